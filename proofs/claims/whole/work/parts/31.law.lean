section LW
variable {l : Launch} {G : qG} {y : MethodName} {cc : ByteArray} {mL d : Nat} {rt : Option FieldType} {pc : Nat} {L : List (Option Value)} {st : List Value} {μ : Mem} {ρ : Type} {em : ρ → Option Value} {F : Option (ρ × Mem)}
theorem T_scr {sl : Nat} {sc : Nat → Int} {a : Int} (hG : G.2.2.1 0 = (sl, fun i => iI (sc i))) (hd : decode cc pc = .ok (.iaload, 1)) (kk : (0 ≤ w32 a ∧ w32 a < (sl : Int)) → qJ l G y cc mL rt d (pc + 1) L (.int (iI (sc (w32 a).toNat)) :: st) (lay μ) (lf em F)) : qJ l G y cc mL rt d pc L (.int (iI a) :: .retAddr 0 :: st) (lay μ) (lf em (ck a sl F)) := by
  by_cases h : 0 ≤ w32 a ∧ w32 a < (sl : Int)
  · rw [ck, if_pos h]
    exact J_roload (j := 0) hd (by decide) (by show _ ∧ _ < ((G.2.2.1 0).1 : Int); rw [hG]; exact h) (by show (G.2.2.1 0).2 _ = _; rw [hG]) (kk h)
  · rw [ck, if_neg h]; exact T_none
theorem T_scrlen {sl : Nat} {sc : Nat → Int} (hG : G.2.2.1 0 = (sl, fun i => iI (sc i))) (hd : decode cc pc = .ok (.arraylength, 1)) (kk : qJ l G y cc mL rt d (pc + 1) L (.int (iI (sl : Int)) :: st) (lay μ) (lf em F)) : qJ l G y cc mL rt d pc L (.retAddr 0 :: st) (lay μ) (lf em F) :=
  J_rolen (j := 0) hd (by decide) (by show Int32.ofNat (G.2.2.1 0).1 = Int32.ofInt _; rw [hG, Int32.ofInt_eq_ofNat]) kk
end LW
def f_L_law_L18 (sl : Nat) (sc : Nat → Int) : Nat → Int → Mem → Option (Int × Mem)
  | 0, _, _ => none
  | u + 1, i3, mu18 => if w32 ((sl : Int) - 6) < w32 i3 then (some (1, mu18)) else (ck i3 sl (jn (κ := Mem → Option (Int × Mem)) (fun m4 => f_L_law_L18 sl sc u (i3 + 6) m4) fun k3 => if w32 (zand (sc (w32 i3).toNat) 63) = 0 then (ck (i3 + 1) sl (ck (i3 + 2) sl (bd (f_X9_row mu18 (sc (w32 (i3 + 1)).toNat) (sc (w32 (i3 + 2)).toNat)) fun r9 m8 => ck (i3 + 1) sl (ck (i3 + 2) sl (bd (f_X10_row m8 (sc (w32 (i3 + 1)).toNat) (sc (w32 (i3 + 2)).toNat)) fun r13 m12 => if w32 r9 = w32 r13 then (k3 m12) else (some (0, m12))))))) else (if w32 (zand (sc (w32 i3).toNat) 63) = 1 then (ck (i3 + 1) sl (ck (i3 + 2) sl (ck (i3 + 3) sl (bd (f_X9_lay mu18 (sc (w32 (i3 + 1)).toNat) (sc (w32 (i3 + 2)).toNat) (sc (w32 (i3 + 3)).toNat)) fun r20 m19 => ck (i3 + 1) sl (ck (i3 + 2) sl (ck (i3 + 3) sl (bd (f_X10_lay m19 (sc (w32 (i3 + 1)).toNat) (sc (w32 (i3 + 2)).toNat) (sc (w32 (i3 + 3)).toNat)) fun r25 m24 => if w32 r20 = w32 r25 then (k3 m24) else (some (0, m24))))))))) else (if w32 (zand (sc (w32 i3).toNat) 63) = 2 then (ck (i3 + 1) sl (ck (i3 + 2) sl (bd (f_X9_at mu18 (sc (w32 (i3 + 1)).toNat) (sc (w32 (i3 + 2)).toNat)) fun r31 m30 => ck (i3 + 1) sl (ck (i3 + 2) sl (bd (f_X10_at m30 (sc (w32 (i3 + 1)).toNat) (sc (w32 (i3 + 2)).toNat)) fun r35 m34 => if w32 r31 = w32 r35 then (k3 m34) else (some (0, m34))))))) else (if w32 (zand (sc (w32 i3).toNat) 63) = 3 then (ck (i3 + 1) sl (bd (f_X9_tear mu18 (sc (w32 (i3 + 1)).toNat)) fun r40 m39 => ck (i3 + 1) sl (bd (f_X10_tear m39 (sc (w32 (i3 + 1)).toNat)) fun r43 m42 => if w32 r40 = w32 r43 then (k3 m42) else (some (0, m42))))) else (if w32 (zand (sc (w32 i3).toNat) 63) = 4 then (ck (i3 + 1) sl (ck (i3 + 2) sl (ck (i3 + 3) sl (ck (i3 + 4) sl (ck (i3 + 5) sl (bd (f_X9_copy mu18 (sc (w32 (i3 + 1)).toNat) (sc (w32 (i3 + 2)).toNat) (sc (w32 (i3 + 3)).toNat) (sc (w32 (i3 + 4)).toNat) (sc (w32 (i3 + 5)).toNat)) fun r52 m51 => ck (i3 + 1) sl (ck (i3 + 2) sl (ck (i3 + 3) sl (ck (i3 + 4) sl (ck (i3 + 5) sl (bd (f_X10_copy m51 (sc (w32 (i3 + 1)).toNat) (sc (w32 (i3 + 2)).toNat) (sc (w32 (i3 + 3)).toNat) (sc (w32 (i3 + 4)).toNat) (sc (w32 (i3 + 5)).toNat)) fun r59 m58 => if w32 r52 = w32 r59 then (k3 m58) else (some (0, m58))))))))))))) else (if w32 (zand (sc (w32 i3).toNat) 63) = 5 then (ck (i3 + 1) sl (bd (f_X9_mean mu18 (sc (w32 (i3 + 1)).toNat)) fun r64 m63 => ck (i3 + 1) sl (bd (f_X10_mean m63 (sc (w32 (i3 + 1)).toNat)) fun r67 m66 => if w32 r64 = w32 r67 then (k3 m66) else (some (0, m66))))) else (if w32 (zand (sc (w32 i3).toNat) 63) = 6 then (ck (i3 + 1) sl (ck (i3 + 2) sl (bd (f_X9_text mu18 (sc (w32 (i3 + 1)).toNat) (sc (w32 (i3 + 2)).toNat)) fun r73 m72 => ck (i3 + 1) sl (ck (i3 + 2) sl (bd (f_X10_text m72 (sc (w32 (i3 + 1)).toNat) (sc (w32 (i3 + 2)).toNat)) fun r77 m76 => if w32 r73 = w32 r77 then (k3 m76) else (some (0, m76))))))) else (if w32 (zand (sc (w32 i3).toNat) 63) = 7 then (ck (i3 + 1) sl (ck (i3 + 2) sl (ck (i3 + 3) sl (bd (f_X9_put mu18 (sc (w32 (i3 + 1)).toNat) (sc (w32 (i3 + 2)).toNat) (sc (w32 (i3 + 3)).toNat)) fun r84 m83 => ck (i3 + 1) sl (ck (i3 + 2) sl (ck (i3 + 3) sl (bd (f_X10_put m83 (sc (w32 (i3 + 1)).toNat) (sc (w32 (i3 + 2)).toNat) (sc (w32 (i3 + 3)).toNat)) fun r89 m88 => if w32 r84 = w32 r89 then (k3 m88) else (some (0, m88))))))))) else (if w32 (zand (sc (w32 i3).toNat) 63) = 8 then (ck (i3 + 1) sl (bd (f_X9_fault mu18 (sc (w32 (i3 + 1)).toNat)) fun r94 m93 => ck (i3 + 1) sl (bd (f_X10_fault m93 (sc (w32 (i3 + 1)).toNat)) fun r97 m96 => if w32 r94 = w32 r97 then (k3 m96) else (some (0, m96))))) else (if w32 (zand (sc (w32 i3).toNat) 63) = 9 then (ck (i3 + 1) sl (bd (f_X9_year mu18 (sc (w32 (i3 + 1)).toNat)) fun r102 m101 => ck (i3 + 1) sl (bd (f_X10_year m101 (sc (w32 (i3 + 1)).toNat)) fun r105 m104 => if w32 r102 = w32 r105 then (k3 m104) else (some (0, m104))))) else (if w32 (zand (sc (w32 i3).toNat) 63) = 10 then (ck (i3 + 1) sl (ck (i3 + 2) sl (bd (f_X9_cape mu18 (sc (w32 (i3 + 1)).toNat) (sc (w32 (i3 + 2)).toNat)) fun r111 m110 => ck (i3 + 1) sl (ck (i3 + 2) sl (bd (f_X10_cape m110 (sc (w32 (i3 + 1)).toNat) (sc (w32 (i3 + 2)).toNat)) fun r115 m114 => if w32 r111 = w32 r115 then (k3 m114) else (some (0, m114))))))) else (if w32 (zand (sc (w32 i3).toNat) 63) = 11 then (ck (i3 + 1) sl (ck (i3 + 2) sl (bd (f_X9_valley mu18 (sc (w32 (i3 + 1)).toNat) (sc (w32 (i3 + 2)).toNat)) fun r121 m120 => ck (i3 + 1) sl (ck (i3 + 2) sl (bd (f_X10_valley m120 (sc (w32 (i3 + 1)).toNat) (sc (w32 (i3 + 2)).toNat)) fun r125 m124 => if w32 r121 = w32 r125 then (k3 m124) else (some (0, m124))))))) else (if w32 (zand (sc (w32 i3).toNat) 63) = 12 then (ck (i3 + 1) sl (ck (i3 + 2) sl (bd (f_X9_mark mu18 (sc (w32 (i3 + 1)).toNat) (sc (w32 (i3 + 2)).toNat)) fun r131 m130 => ck (i3 + 1) sl (ck (i3 + 2) sl (bd (f_X10_mark m130 (sc (w32 (i3 + 1)).toNat) (sc (w32 (i3 + 2)).toNat)) fun r135 m134 => if w32 r131 = w32 r135 then (k3 m134) else (some (0, m134))))))) else (if w32 (zand (sc (w32 i3).toNat) 63) = 13 then (ck (i3 + 1) sl (ck (i3 + 2) sl (bd (f_X9_price mu18 (sc (w32 (i3 + 1)).toNat) (sc (w32 (i3 + 2)).toNat)) fun r141 m140 => ck (i3 + 1) sl (ck (i3 + 2) sl (bd (f_X10_price m140 (sc (w32 (i3 + 1)).toNat) (sc (w32 (i3 + 2)).toNat)) fun r145 m144 => if w32 r141 = w32 r145 then (k3 m144) else (some (0, m144))))))) else (if w32 (zand (sc (w32 i3).toNat) 63) = 14 then (ck (i3 + 1) sl (bd (f_X9_hold mu18 (sc (w32 (i3 + 1)).toNat)) fun r150 m149 => ck (i3 + 1) sl (bd (f_X10_hold m149 (sc (w32 (i3 + 1)).toNat)) fun r153 m152 => if w32 r150 = w32 r153 then (k3 m152) else (some (0, m152))))) else (if w32 (zand (sc (w32 i3).toNat) 63) = 15 then (ck (i3 + 1) sl (ck (i3 + 2) sl (bd (f_X9_rope mu18 (sc (w32 (i3 + 1)).toNat) (sc (w32 (i3 + 2)).toNat)) fun r159 m158 => ck (i3 + 1) sl (ck (i3 + 2) sl (bd (f_X10_rope m158 (sc (w32 (i3 + 1)).toNat) (sc (w32 (i3 + 2)).toNat)) fun r163 m162 => if w32 r159 = w32 r163 then (k3 m162) else (some (0, m162))))))) else (if w32 (zand (sc (w32 i3).toNat) 63) = 16 then (bd (f_X9_rise mu18) fun r167 m166 => bd (f_X10_rise m166) fun r169 m168 => if w32 r167 = w32 r169 then (k3 m168) else (some (0, m168))) else (if w32 (zand (sc (w32 i3).toNat) 63) = 17 then (ck (i3 + 1) sl (bd (f_X9_undo mu18 (sc (w32 (i3 + 1)).toNat)) fun r174 m173 => ck (i3 + 1) sl (bd (f_X10_undo m173 (sc (w32 (i3 + 1)).toNat)) fun r177 m176 => if w32 r174 = w32 r177 then (k3 m176) else (some (0, m176))))) else (if w32 (zand (sc (w32 i3).toNat) 63) = 18 then (bd (f_X9_sun mu18) fun r181 m180 => bd (f_X10_sun m180) fun r183 m182 => if w32 r181 = w32 r183 then (k3 m182) else (some (0, m182))) else (if w32 (zand (sc (w32 i3).toNat) 63) = 19 then (bd (f_X9_gained mu18) fun r187 m186 => bd (f_X10_gained m186) fun r189 m188 => if w32 r187 = w32 r189 then (k3 m188) else (some (0, m188))) else (if w32 (zand (sc (w32 i3).toNat) 63) = 20 then (ck (i3 + 1) sl (bd (f_X9_keep mu18 (sc (w32 (i3 + 1)).toNat)) fun r194 m193 => ck (i3 + 1) sl (bd (f_X10_keep m193 (sc (w32 (i3 + 1)).toNat)) fun r197 m196 => if w32 r194 = w32 r197 then (k3 m196) else (some (0, m196))))) else (if w32 (zand (sc (w32 i3).toNat) 63) = 21 then (ck (i3 + 1) sl (bd (f_X9_on mu18 (sc (w32 (i3 + 1)).toNat)) fun r202 m201 => ck (i3 + 1) sl (bd (f_X10_on m201 (sc (w32 (i3 + 1)).toNat)) fun r205 m204 => if w32 r202 = w32 r205 then (k3 m204) else (some (0, m204))))) else (if w32 (zand (sc (w32 i3).toNat) 63) = 22 then (ck (i3 + 1) sl (bd (f_X9_run mu18 (sc (w32 (i3 + 1)).toNat)) fun r210 m209 => ck (i3 + 1) sl (bd (f_X10_run m209 (sc (w32 (i3 + 1)).toNat)) fun r213 m212 => if w32 r210 = w32 r213 then (k3 m212) else (some (0, m212))))) else (if w32 (zand (sc (w32 i3).toNat) 63) = 23 then (ck (i3 + 1) sl (bd (f_X9_burns mu18 (sc (w32 (i3 + 1)).toNat)) fun r218 m217 => ck (i3 + 1) sl (bd (f_X10_burns m217 (sc (w32 (i3 + 1)).toNat)) fun r221 m220 => if w32 r218 = w32 r221 then (k3 m220) else (some (0, m220))))) else (if w32 (zand (sc (w32 i3).toNat) 63) = 24 then (ck (i3 + 1) sl (ck (i3 + 2) sl (bd (f_X9_best mu18 (sc (w32 (i3 + 1)).toNat) (sc (w32 (i3 + 2)).toNat)) fun r227 m226 => ck (i3 + 1) sl (ck (i3 + 2) sl (bd (f_X10_best m226 (sc (w32 (i3 + 1)).toNat) (sc (w32 (i3 + 2)).toNat)) fun r231 m230 => if w32 r227 = w32 r231 then (k3 m230) else (some (0, m230))))))) else (if w32 (zand (sc (w32 i3).toNat) 63) = 25 then (ck (i3 + 1) sl (ck (i3 + 2) sl (bd (f_X9_slowest mu18 (sc (w32 (i3 + 1)).toNat) (sc (w32 (i3 + 2)).toNat)) fun r237 m236 => ck (i3 + 1) sl (ck (i3 + 2) sl (bd (f_X10_slowest m236 (sc (w32 (i3 + 1)).toNat) (sc (w32 (i3 + 2)).toNat)) fun r241 m240 => if w32 r237 = w32 r241 then (k3 m240) else (some (0, m240))))))) else (if w32 (zand (sc (w32 i3).toNat) 63) = 26 then (ck (i3 + 1) sl (bd (f_X9_down mu18 (sc (w32 (i3 + 1)).toNat)) fun r246 m245 => ck (i3 + 1) sl (bd (f_X10_down m245 (sc (w32 (i3 + 1)).toNat)) fun r249 m248 => if w32 r246 = w32 r249 then (k3 m248) else (some (0, m248))))) else (if w32 (zand (sc (w32 i3).toNat) 63) = 27 then (bd (f_X9_longest mu18) fun r253 m252 => bd (f_X10_longest m252) fun r255 m254 => if w32 r253 = w32 r255 then (k3 m254) else (some (0, m254))) else (if w32 (zand (sc (w32 i3).toNat) 63) = 28 then (ck (i3 + 1) sl (bd (f_X9_ropes mu18 (sc (w32 (i3 + 1)).toNat)) fun r260 m259 => ck (i3 + 1) sl (bd (f_X10_ropes m259 (sc (w32 (i3 + 1)).toNat)) fun r263 m262 => if w32 r260 = w32 r263 then (k3 m262) else (some (0, m262))))) else (if w32 (zand (sc (w32 i3).toNat) 63) = 29 then (ck (i3 + 1) sl (ck (i3 + 2) sl (bd (f_X9_loose mu18 (sc (w32 (i3 + 1)).toNat) (sc (w32 (i3 + 2)).toNat)) fun r269 m268 => ck (i3 + 1) sl (ck (i3 + 2) sl (bd (f_X10_loose m268 (sc (w32 (i3 + 1)).toNat) (sc (w32 (i3 + 2)).toNat)) fun r273 m272 => if w32 r269 = w32 r273 then (k3 m272) else (some (0, m272))))))) else (if w32 (zand (sc (w32 i3).toNat) 63) = 30 then (ck (i3 + 1) sl (ck (i3 + 2) sl (bd (f_X9_votes mu18 (sc (w32 (i3 + 1)).toNat) (sc (w32 (i3 + 2)).toNat)) fun r279 m278 => ck (i3 + 1) sl (ck (i3 + 2) sl (bd (f_X10_votes m278 (sc (w32 (i3 + 1)).toNat) (sc (w32 (i3 + 2)).toNat)) fun r283 m282 => if w32 r279 = w32 r283 then (k3 m282) else (some (0, m282))))))) else (if w32 (zand (sc (w32 i3).toNat) 63) = 31 then (bd (f_X9_choice mu18) fun r287 m286 => bd (f_X10_choice m286) fun r289 m288 => if w32 r287 = w32 r289 then (k3 m288) else (some (0, m288))) else (if w32 (zand (sc (w32 i3).toNat) 63) = 32 then (ck (i3 + 1) sl (bd (f_X9_parts mu18 (sc (w32 (i3 + 1)).toNat)) fun r294 m293 => ck (i3 + 1) sl (bd (f_X10_parts m293 (sc (w32 (i3 + 1)).toNat)) fun r297 m296 => if w32 r294 = w32 r297 then (k3 m296) else (some (0, m296))))) else (if w32 (zand (sc (w32 i3).toNat) 63) = 33 then (ck (i3 + 1) sl (ck (i3 + 2) sl (ck (i3 + 3) sl (bd (f_X9_fits mu18 (sc (w32 (i3 + 1)).toNat) (sc (w32 (i3 + 2)).toNat) (sc (w32 (i3 + 3)).toNat)) fun r304 m303 => ck (i3 + 1) sl (ck (i3 + 2) sl (ck (i3 + 3) sl (bd (f_X10_fits m303 (sc (w32 (i3 + 1)).toNat) (sc (w32 (i3 + 2)).toNat) (sc (w32 (i3 + 3)).toNat)) fun r309 m308 => if w32 r304 = w32 r309 then (k3 m308) else (some (0, m308))))))))) else (if w32 (zand (sc (w32 i3).toNat) 63) = 34 then (ck (i3 + 1) sl (ck (i3 + 2) sl (bd (f_X9_slipped mu18 (sc (w32 (i3 + 1)).toNat) (sc (w32 (i3 + 2)).toNat)) fun r315 m314 => ck (i3 + 1) sl (ck (i3 + 2) sl (bd (f_X10_slipped m314 (sc (w32 (i3 + 1)).toNat) (sc (w32 (i3 + 2)).toNat)) fun r319 m318 => if w32 r315 = w32 r319 then (k3 m318) else (some (0, m318))))))) else (if w32 (zand (sc (w32 i3).toNat) 63) = 35 then (ck (i3 + 1) sl (ck (i3 + 2) sl (ck (i3 + 3) sl (bd (f_X9_odds mu18 (sc (w32 (i3 + 1)).toNat) (sc (w32 (i3 + 2)).toNat) (sc (w32 (i3 + 3)).toNat)) fun r326 m325 => ck (i3 + 1) sl (ck (i3 + 2) sl (ck (i3 + 3) sl (bd (f_X10_odds m325 (sc (w32 (i3 + 1)).toNat) (sc (w32 (i3 + 2)).toNat) (sc (w32 (i3 + 3)).toNat)) fun r331 m330 => if w32 r326 = w32 r331 then (k3 m330) else (some (0, m330))))))))) else (if w32 (zand (sc (w32 i3).toNat) 63) = 36 then (ck (i3 + 1) sl (ck (i3 + 2) sl (bd (f_X9_lots mu18 (sc (w32 (i3 + 1)).toNat) (sc (w32 (i3 + 2)).toNat)) fun r337 m336 => ck (i3 + 1) sl (ck (i3 + 2) sl (bd (f_X10_lots m336 (sc (w32 (i3 + 1)).toNat) (sc (w32 (i3 + 2)).toNat)) fun r341 m340 => if w32 r337 = w32 r341 then (k3 m340) else (some (0, m340))))))) else (if w32 (zand (sc (w32 i3).toNat) 63) = 37 then (bd (f_X9_asked mu18) fun r345 m344 => bd (f_X10_asked m344) fun r347 m346 => if w32 r345 = w32 r347 then (k3 m346) else (some (0, m346))) else (if w32 (zand (sc (w32 i3).toNat) 63) = 38 then (bd (f_X9_upper mu18) fun r351 m350 => bd (f_X10_upper m350) fun r353 m352 => if w32 (ycmp r351 r353) = 0 then (k3 m352) else (some (0, m352))) else (if w32 (zand (sc (w32 i3).toNat) 63) = 39 then (bd (f_X9_lower mu18) fun r357 m356 => bd (f_X10_lower m356) fun r359 m358 => if w32 (ycmp r357 r359) = 0 then (k3 m358) else (some (0, m358))) else (if w32 (zand (sc (w32 i3).toNat) 63) = 40 then (ck (i3 + 1) sl (bd (f_X9_count mu18 (sc (w32 (i3 + 1)).toNat)) fun r364 m363 => ck (i3 + 1) sl (bd (f_X10_count m363 (sc (w32 (i3 + 1)).toNat)) fun r367 m366 => if w32 r364 = w32 r367 then (k3 m366) else (some (0, m366))))) else (if w32 (zand (sc (w32 i3).toNat) 63) = 41 then (bd (f_X9_finding mu18) fun r371 m370 => bd (f_X10_finding m370) fun r373 m372 => if w32 r371 = w32 r373 then (k3 m372) else (some (0, m372))) else (if w32 (zand (sc (w32 i3).toNat) 63) = 42 then (ck (i3 + 1) sl (bd (f_X9_findings mu18 (sc (w32 (i3 + 1)).toNat)) fun r378 m377 => ck (i3 + 1) sl (bd (f_X10_findings m377 (sc (w32 (i3 + 1)).toNat)) fun r381 m380 => if w32 r378 = w32 r381 then (k3 m380) else (some (0, m380))))) else (if w32 (zand (sc (w32 i3).toNat) 63) = 43 then (bd (f_X9_digest mu18) fun r385 m384 => bd (f_X10_digest m384) fun r387 m386 => if w32 (ycmp r385 r387) = 0 then (k3 m386) else (some (0, m386))) else (k3 mu18))))))))))))))))))))))))))))))))))))))))))))))
set_option maxRecDepth 40000 in
theorem j_L_law_L18 {l : Launch} {G : qG} {sl : Nat} {sc : Nat → Int} (hG : G.2.2.1 0 = (sl, fun i => iI (sc i))) : ∀ (u : Nat) (i3 : Int) (mu18 : Mem), qJ l G yL_law cL_law 4 (some .boolean) 20 18 [some (.retAddr 0), some (.ref 0), some (.ref 67), some (.int (iI i3))] [] (lay mu18) (lf eI (f_L_law_L18 sl sc u i3 mu18)) := by
  intro u
  induction u with
  | zero => intro _ mu18; exact T_none
  | succ u ih =>
    intro i3 mu18
    rw [f_L_law_L18]
    refine J_iload_n (pc := 18) dL_law_18 rfl rfl ?_
    refine J_aload_n (pc := 19) dL_law_19 rfl rfl rfl ?_
    refine T_scrlen (pc := 20) hG dL_law_20 ?_
    refine J_bipush (pc := 21) dL_law_21 (by decide) (by decide) ?_
    refine J_isub (pc := 23) dL_law_23 ?_
    refine T_icmp_gt (pc := 24) (tgt := 1405) dL_law_24 (by decide) (fun h1 => ?_) (fun h1 => ?_)
    · refine J_iconst (pc := 1405) dL_law_1405 ?_
      exact T_retZ (pc := 1406) rfl (by decide) dL_law_1406
    · refine J_aload_n (pc := 27) dL_law_27 rfl rfl rfl ?_
      refine J_iload_n (pc := 28) dL_law_28 rfl rfl ?_
      refine T_scr (pc := 29) hG dL_law_29 (fun h2 => ?_)
      refine J_bipush (pc := 30) dL_law_30 (by decide) (by decide) ?_
      refine J_iand (pc := 32) dL_law_32 ?_
      refine T_jn (κ := Mem → Option (Int × Mem)) (fun k => ∀ (m4 : Mem), qJ l G yL_law cL_law 4 (some .boolean) 20 1399 [some (.retAddr 0), some (.ref 0), some (.ref 67), some (.int (iI i3))] [] (lay m4) (lf eI (k m4))) ?_ (fun k3 hk3 => ?_)
      · intro m4
        refine J_iinc (pc := 1399) (L' := [some (.retAddr 0), some (.ref 0), some (.ref 67), some (.int (iI (i3 + 6)))]) dL_law_1399 rfl (by decide) rfl rfl ?_
        refine J_goto (pc := 1402) (tgt := 18) dL_law_1402 (by decide) ?_
        exact ih (i3 + 6) m4
      · by_cases h5 : w32 (zand (sc (w32 i3).toNat) 63) = 0
        · rw [if_pos h5]
          refine J_swIn (pc := 33) (j := 0) (tgt := 224) dL_law_33 h5 (by decide) (by decide) rfl (by decide) ?_
          refine J_aload_n (pc := 224) dL_law_224 rfl rfl rfl ?_
          refine J_aload_n (pc := 225) dL_law_225 rfl rfl rfl ?_
          refine J_iload_n (pc := 226) dL_law_226 rfl rfl ?_
          refine J_iconst (pc := 227) dL_law_227 ?_
          refine J_iadd (pc := 228) dL_law_228 ?_
          refine T_scr (pc := 229) hG dL_law_229 (fun h6 => ?_)
          refine J_aload_n (pc := 230) dL_law_230 rfl rfl rfl ?_
          refine J_iload_n (pc := 231) dL_law_231 rfl rfl ?_
          refine J_iconst (pc := 232) dL_law_232 ?_
          refine J_iadd (pc := 233) dL_law_233 ?_
          refine T_scr (pc := 234) hG dL_law_234 (fun h7 => ?_)
          refine T_callVI (pc := 235) (As := [.int (iI (sc (w32 (i3 + 1)).toNat)), .int (iI (sc (w32 (i3 + 2)).toNat))]) (k := 0) (st := []) ok_yX9_row lm_L_13 dL_law_235 (by decide) rfl rfl (by decide) (Nat.le_of_ble_eq_true rfl) (m_X9_row mu18 (sc (w32 (i3 + 1)).toNat) (sc (w32 (i3 + 2)).toNat)) (fun r9 m8 em8 => ?_)
          refine J_aload_n (pc := 238) dL_law_238 rfl rfl rfl ?_
          refine J_aload_n (pc := 239) dL_law_239 rfl rfl rfl ?_
          refine J_iload_n (pc := 240) dL_law_240 rfl rfl ?_
          refine J_iconst (pc := 241) dL_law_241 ?_
          refine J_iadd (pc := 242) dL_law_242 ?_
          refine T_scr (pc := 243) hG dL_law_243 (fun h10 => ?_)
          refine J_aload_n (pc := 244) dL_law_244 rfl rfl rfl ?_
          refine J_iload_n (pc := 245) dL_law_245 rfl rfl ?_
          refine J_iconst (pc := 246) dL_law_246 ?_
          refine J_iadd (pc := 247) dL_law_247 ?_
          refine T_scr (pc := 248) hG dL_law_248 (fun h11 => ?_)
          refine T_callVI (pc := 249) (As := [.int (iI (sc (w32 (i3 + 1)).toNat)), .int (iI (sc (w32 (i3 + 2)).toNat))]) (k := 67) (st := [.int (iI r9)]) ok_yX10_row lm_L_17 dL_law_249 (by decide) rfl rfl (by decide) (Nat.le_of_ble_eq_true rfl) (m_X10_row m8 (sc (w32 (i3 + 1)).toNat) (sc (w32 (i3 + 2)).toNat)) (fun r13 m12 em12 => ?_)
          refine T_icmp_eq (pc := 252) (tgt := 1399) dL_law_252 (by decide) (fun h14 => ?_) (fun h14 => ?_)
          · exact hk3  m12
          · refine J_iconst (pc := 255) dL_law_255 ?_
            exact T_retZ (pc := 256) rfl (by decide) dL_law_256
        rw [if_neg h5]
        by_cases h15 : w32 (zand (sc (w32 i3).toNat) 63) = 1
        · rw [if_pos h15]
          refine J_swIn (pc := 33) (j := 1) (tgt := 257) dL_law_33 h15 (by decide) (by decide) rfl (by decide) ?_
          refine J_aload_n (pc := 257) dL_law_257 rfl rfl rfl ?_
          refine J_aload_n (pc := 258) dL_law_258 rfl rfl rfl ?_
          refine J_iload_n (pc := 259) dL_law_259 rfl rfl ?_
          refine J_iconst (pc := 260) dL_law_260 ?_
          refine J_iadd (pc := 261) dL_law_261 ?_
          refine T_scr (pc := 262) hG dL_law_262 (fun h16 => ?_)
          refine J_aload_n (pc := 263) dL_law_263 rfl rfl rfl ?_
          refine J_iload_n (pc := 264) dL_law_264 rfl rfl ?_
          refine J_iconst (pc := 265) dL_law_265 ?_
          refine J_iadd (pc := 266) dL_law_266 ?_
          refine T_scr (pc := 267) hG dL_law_267 (fun h17 => ?_)
          refine J_aload_n (pc := 268) dL_law_268 rfl rfl rfl ?_
          refine J_iload_n (pc := 269) dL_law_269 rfl rfl ?_
          refine J_iconst (pc := 270) dL_law_270 ?_
          refine J_iadd (pc := 271) dL_law_271 ?_
          refine T_scr (pc := 272) hG dL_law_272 (fun h18 => ?_)
          refine T_callVI (pc := 273) (As := [.int (iI (sc (w32 (i3 + 1)).toNat)), .int (iI (sc (w32 (i3 + 2)).toNat)), .int (iI (sc (w32 (i3 + 3)).toNat))]) (k := 0) (st := []) ok_yX9_lay lm_L_18 dL_law_273 (by decide) rfl rfl (by decide) (Nat.le_of_ble_eq_true rfl) (m_X9_lay mu18 (sc (w32 (i3 + 1)).toNat) (sc (w32 (i3 + 2)).toNat) (sc (w32 (i3 + 3)).toNat)) (fun r20 m19 em19 => ?_)
          refine J_aload_n (pc := 276) dL_law_276 rfl rfl rfl ?_
          refine J_aload_n (pc := 277) dL_law_277 rfl rfl rfl ?_
          refine J_iload_n (pc := 278) dL_law_278 rfl rfl ?_
          refine J_iconst (pc := 279) dL_law_279 ?_
          refine J_iadd (pc := 280) dL_law_280 ?_
          refine T_scr (pc := 281) hG dL_law_281 (fun h21 => ?_)
          refine J_aload_n (pc := 282) dL_law_282 rfl rfl rfl ?_
          refine J_iload_n (pc := 283) dL_law_283 rfl rfl ?_
          refine J_iconst (pc := 284) dL_law_284 ?_
          refine J_iadd (pc := 285) dL_law_285 ?_
          refine T_scr (pc := 286) hG dL_law_286 (fun h22 => ?_)
          refine J_aload_n (pc := 287) dL_law_287 rfl rfl rfl ?_
          refine J_iload_n (pc := 288) dL_law_288 rfl rfl ?_
          refine J_iconst (pc := 289) dL_law_289 ?_
          refine J_iadd (pc := 290) dL_law_290 ?_
          refine T_scr (pc := 291) hG dL_law_291 (fun h23 => ?_)
          refine T_callVI (pc := 292) (As := [.int (iI (sc (w32 (i3 + 1)).toNat)), .int (iI (sc (w32 (i3 + 2)).toNat)), .int (iI (sc (w32 (i3 + 3)).toNat))]) (k := 67) (st := [.int (iI r20)]) ok_yX10_lay lm_L_22 dL_law_292 (by decide) rfl rfl (by decide) (Nat.le_of_ble_eq_true rfl) (m_X10_lay m19 (sc (w32 (i3 + 1)).toNat) (sc (w32 (i3 + 2)).toNat) (sc (w32 (i3 + 3)).toNat)) (fun r25 m24 em24 => ?_)
          refine T_icmp_eq (pc := 295) (tgt := 1399) dL_law_295 (by decide) (fun h26 => ?_) (fun h26 => ?_)
          · exact hk3  m24
          · refine J_iconst (pc := 298) dL_law_298 ?_
            exact T_retZ (pc := 299) rfl (by decide) dL_law_299
        rw [if_neg h15]
        by_cases h27 : w32 (zand (sc (w32 i3).toNat) 63) = 2
        · rw [if_pos h27]
          refine J_swIn (pc := 33) (j := 2) (tgt := 300) dL_law_33 h27 (by decide) (by decide) rfl (by decide) ?_
          refine J_aload_n (pc := 300) dL_law_300 rfl rfl rfl ?_
          refine J_aload_n (pc := 301) dL_law_301 rfl rfl rfl ?_
          refine J_iload_n (pc := 302) dL_law_302 rfl rfl ?_
          refine J_iconst (pc := 303) dL_law_303 ?_
          refine J_iadd (pc := 304) dL_law_304 ?_
          refine T_scr (pc := 305) hG dL_law_305 (fun h28 => ?_)
          refine J_aload_n (pc := 306) dL_law_306 rfl rfl rfl ?_
          refine J_iload_n (pc := 307) dL_law_307 rfl rfl ?_
          refine J_iconst (pc := 308) dL_law_308 ?_
          refine J_iadd (pc := 309) dL_law_309 ?_
          refine T_scr (pc := 310) hG dL_law_310 (fun h29 => ?_)
          refine T_callVI (pc := 311) (As := [.int (iI (sc (w32 (i3 + 1)).toNat)), .int (iI (sc (w32 (i3 + 2)).toNat))]) (k := 0) (st := []) ok_yX9_at lm_L_23 dL_law_311 (by decide) rfl rfl (by decide) (Nat.le_of_ble_eq_true rfl) (m_X9_at mu18 (sc (w32 (i3 + 1)).toNat) (sc (w32 (i3 + 2)).toNat)) (fun r31 m30 em30 => ?_)
          refine J_aload_n (pc := 314) dL_law_314 rfl rfl rfl ?_
          refine J_aload_n (pc := 315) dL_law_315 rfl rfl rfl ?_
          refine J_iload_n (pc := 316) dL_law_316 rfl rfl ?_
          refine J_iconst (pc := 317) dL_law_317 ?_
          refine J_iadd (pc := 318) dL_law_318 ?_
          refine T_scr (pc := 319) hG dL_law_319 (fun h32 => ?_)
          refine J_aload_n (pc := 320) dL_law_320 rfl rfl rfl ?_
          refine J_iload_n (pc := 321) dL_law_321 rfl rfl ?_
          refine J_iconst (pc := 322) dL_law_322 ?_
          refine J_iadd (pc := 323) dL_law_323 ?_
          refine T_scr (pc := 324) hG dL_law_324 (fun h33 => ?_)
          refine T_callVI (pc := 325) (As := [.int (iI (sc (w32 (i3 + 1)).toNat)), .int (iI (sc (w32 (i3 + 2)).toNat))]) (k := 67) (st := [.int (iI r31)]) ok_yX10_at lm_L_26 dL_law_325 (by decide) rfl rfl (by decide) (Nat.le_of_ble_eq_true rfl) (m_X10_at m30 (sc (w32 (i3 + 1)).toNat) (sc (w32 (i3 + 2)).toNat)) (fun r35 m34 em34 => ?_)
          refine T_icmp_eq (pc := 328) (tgt := 1399) dL_law_328 (by decide) (fun h36 => ?_) (fun h36 => ?_)
          · exact hk3  m34
          · refine J_iconst (pc := 331) dL_law_331 ?_
            exact T_retZ (pc := 332) rfl (by decide) dL_law_332
        rw [if_neg h27]
        by_cases h37 : w32 (zand (sc (w32 i3).toNat) 63) = 3
        · rw [if_pos h37]
          refine J_swIn (pc := 33) (j := 3) (tgt := 333) dL_law_33 h37 (by decide) (by decide) rfl (by decide) ?_
          refine J_aload_n (pc := 333) dL_law_333 rfl rfl rfl ?_
          refine J_aload_n (pc := 334) dL_law_334 rfl rfl rfl ?_
          refine J_iload_n (pc := 335) dL_law_335 rfl rfl ?_
          refine J_iconst (pc := 336) dL_law_336 ?_
          refine J_iadd (pc := 337) dL_law_337 ?_
          refine T_scr (pc := 338) hG dL_law_338 (fun h38 => ?_)
          refine T_callVI (pc := 339) (As := [.int (iI (sc (w32 (i3 + 1)).toNat))]) (k := 0) (st := []) ok_yX9_tear lm_L_27 dL_law_339 (by decide) rfl rfl (by decide) (Nat.le_of_ble_eq_true rfl) (m_X9_tear mu18 (sc (w32 (i3 + 1)).toNat)) (fun r40 m39 em39 => ?_)
          refine J_aload_n (pc := 342) dL_law_342 rfl rfl rfl ?_
          refine J_aload_n (pc := 343) dL_law_343 rfl rfl rfl ?_
          refine J_iload_n (pc := 344) dL_law_344 rfl rfl ?_
          refine J_iconst (pc := 345) dL_law_345 ?_
          refine J_iadd (pc := 346) dL_law_346 ?_
          refine T_scr (pc := 347) hG dL_law_347 (fun h41 => ?_)
          refine T_callVI (pc := 348) (As := [.int (iI (sc (w32 (i3 + 1)).toNat))]) (k := 67) (st := [.int (iI r40)]) ok_yX10_tear lm_L_31 dL_law_348 (by decide) rfl rfl (by decide) (Nat.le_of_ble_eq_true rfl) (m_X10_tear m39 (sc (w32 (i3 + 1)).toNat)) (fun r43 m42 em42 => ?_)
          refine T_icmp_eq (pc := 351) (tgt := 1399) dL_law_351 (by decide) (fun h44 => ?_) (fun h44 => ?_)
          · exact hk3  m42
          · refine J_iconst (pc := 354) dL_law_354 ?_
            exact T_retZ (pc := 355) rfl (by decide) dL_law_355
        rw [if_neg h37]
        by_cases h45 : w32 (zand (sc (w32 i3).toNat) 63) = 4
        · rw [if_pos h45]
          refine J_swIn (pc := 33) (j := 4) (tgt := 356) dL_law_33 h45 (by decide) (by decide) rfl (by decide) ?_
          refine J_aload_n (pc := 356) dL_law_356 rfl rfl rfl ?_
          refine J_aload_n (pc := 357) dL_law_357 rfl rfl rfl ?_
          refine J_iload_n (pc := 358) dL_law_358 rfl rfl ?_
          refine J_iconst (pc := 359) dL_law_359 ?_
          refine J_iadd (pc := 360) dL_law_360 ?_
          refine T_scr (pc := 361) hG dL_law_361 (fun h46 => ?_)
          refine J_aload_n (pc := 362) dL_law_362 rfl rfl rfl ?_
          refine J_iload_n (pc := 363) dL_law_363 rfl rfl ?_
          refine J_iconst (pc := 364) dL_law_364 ?_
          refine J_iadd (pc := 365) dL_law_365 ?_
          refine T_scr (pc := 366) hG dL_law_366 (fun h47 => ?_)
          refine J_aload_n (pc := 367) dL_law_367 rfl rfl rfl ?_
          refine J_iload_n (pc := 368) dL_law_368 rfl rfl ?_
          refine J_iconst (pc := 369) dL_law_369 ?_
          refine J_iadd (pc := 370) dL_law_370 ?_
          refine T_scr (pc := 371) hG dL_law_371 (fun h48 => ?_)
          refine J_aload_n (pc := 372) dL_law_372 rfl rfl rfl ?_
          refine J_iload_n (pc := 373) dL_law_373 rfl rfl ?_
          refine J_iconst (pc := 374) dL_law_374 ?_
          refine J_iadd (pc := 375) dL_law_375 ?_
          refine T_scr (pc := 376) hG dL_law_376 (fun h49 => ?_)
          refine J_aload_n (pc := 377) dL_law_377 rfl rfl rfl ?_
          refine J_iload_n (pc := 378) dL_law_378 rfl rfl ?_
          refine J_iconst (pc := 379) dL_law_379 ?_
          refine J_iadd (pc := 380) dL_law_380 ?_
          refine T_scr (pc := 381) hG dL_law_381 (fun h50 => ?_)
          refine T_callVI (pc := 382) (As := [.int (iI (sc (w32 (i3 + 1)).toNat)), .int (iI (sc (w32 (i3 + 2)).toNat)), .int (iI (sc (w32 (i3 + 3)).toNat)), .int (iI (sc (w32 (i3 + 4)).toNat)), .int (iI (sc (w32 (i3 + 5)).toNat))]) (k := 0) (st := []) ok_yX9_copy lm_L_32 dL_law_382 (by decide) rfl rfl (by decide) (Nat.le_of_ble_eq_true rfl) (m_X9_copy mu18 (sc (w32 (i3 + 1)).toNat) (sc (w32 (i3 + 2)).toNat) (sc (w32 (i3 + 3)).toNat) (sc (w32 (i3 + 4)).toNat) (sc (w32 (i3 + 5)).toNat)) (fun r52 m51 em51 => ?_)
          refine J_aload_n (pc := 385) dL_law_385 rfl rfl rfl ?_
          refine J_aload_n (pc := 386) dL_law_386 rfl rfl rfl ?_
          refine J_iload_n (pc := 387) dL_law_387 rfl rfl ?_
          refine J_iconst (pc := 388) dL_law_388 ?_
          refine J_iadd (pc := 389) dL_law_389 ?_
          refine T_scr (pc := 390) hG dL_law_390 (fun h53 => ?_)
          refine J_aload_n (pc := 391) dL_law_391 rfl rfl rfl ?_
          refine J_iload_n (pc := 392) dL_law_392 rfl rfl ?_
          refine J_iconst (pc := 393) dL_law_393 ?_
          refine J_iadd (pc := 394) dL_law_394 ?_
          refine T_scr (pc := 395) hG dL_law_395 (fun h54 => ?_)
          refine J_aload_n (pc := 396) dL_law_396 rfl rfl rfl ?_
          refine J_iload_n (pc := 397) dL_law_397 rfl rfl ?_
          refine J_iconst (pc := 398) dL_law_398 ?_
          refine J_iadd (pc := 399) dL_law_399 ?_
          refine T_scr (pc := 400) hG dL_law_400 (fun h55 => ?_)
          refine J_aload_n (pc := 401) dL_law_401 rfl rfl rfl ?_
          refine J_iload_n (pc := 402) dL_law_402 rfl rfl ?_
          refine J_iconst (pc := 403) dL_law_403 ?_
          refine J_iadd (pc := 404) dL_law_404 ?_
          refine T_scr (pc := 405) hG dL_law_405 (fun h56 => ?_)
          refine J_aload_n (pc := 406) dL_law_406 rfl rfl rfl ?_
          refine J_iload_n (pc := 407) dL_law_407 rfl rfl ?_
          refine J_iconst (pc := 408) dL_law_408 ?_
          refine J_iadd (pc := 409) dL_law_409 ?_
          refine T_scr (pc := 410) hG dL_law_410 (fun h57 => ?_)
          refine T_callVI (pc := 411) (As := [.int (iI (sc (w32 (i3 + 1)).toNat)), .int (iI (sc (w32 (i3 + 2)).toNat)), .int (iI (sc (w32 (i3 + 3)).toNat)), .int (iI (sc (w32 (i3 + 4)).toNat)), .int (iI (sc (w32 (i3 + 5)).toNat))]) (k := 67) (st := [.int (iI r52)]) ok_yX10_copy lm_L_36 dL_law_411 (by decide) rfl rfl (by decide) (Nat.le_of_ble_eq_true rfl) (m_X10_copy m51 (sc (w32 (i3 + 1)).toNat) (sc (w32 (i3 + 2)).toNat) (sc (w32 (i3 + 3)).toNat) (sc (w32 (i3 + 4)).toNat) (sc (w32 (i3 + 5)).toNat)) (fun r59 m58 em58 => ?_)
          refine T_icmp_eq (pc := 414) (tgt := 1399) dL_law_414 (by decide) (fun h60 => ?_) (fun h60 => ?_)
          · exact hk3  m58
          · refine J_iconst (pc := 417) dL_law_417 ?_
            exact T_retZ (pc := 418) rfl (by decide) dL_law_418
        rw [if_neg h45]
        by_cases h61 : w32 (zand (sc (w32 i3).toNat) 63) = 5
        · rw [if_pos h61]
          refine J_swIn (pc := 33) (j := 5) (tgt := 419) dL_law_33 h61 (by decide) (by decide) rfl (by decide) ?_
          refine J_aload_n (pc := 419) dL_law_419 rfl rfl rfl ?_
          refine J_aload_n (pc := 420) dL_law_420 rfl rfl rfl ?_
          refine J_iload_n (pc := 421) dL_law_421 rfl rfl ?_
          refine J_iconst (pc := 422) dL_law_422 ?_
          refine J_iadd (pc := 423) dL_law_423 ?_
          refine T_scr (pc := 424) hG dL_law_424 (fun h62 => ?_)
          refine T_callVI (pc := 425) (As := [.int (iI (sc (w32 (i3 + 1)).toNat))]) (k := 0) (st := []) ok_yX9_mean lm_L_37 dL_law_425 (by decide) rfl rfl (by decide) (Nat.le_of_ble_eq_true rfl) (m_X9_mean mu18 (sc (w32 (i3 + 1)).toNat)) (fun r64 m63 em63 => ?_)
          refine J_aload_n (pc := 428) dL_law_428 rfl rfl rfl ?_
          refine J_aload_n (pc := 429) dL_law_429 rfl rfl rfl ?_
          refine J_iload_n (pc := 430) dL_law_430 rfl rfl ?_
          refine J_iconst (pc := 431) dL_law_431 ?_
          refine J_iadd (pc := 432) dL_law_432 ?_
          refine T_scr (pc := 433) hG dL_law_433 (fun h65 => ?_)
          refine T_callVI (pc := 434) (As := [.int (iI (sc (w32 (i3 + 1)).toNat))]) (k := 67) (st := [.int (iI r64)]) ok_yX10_mean lm_L_40 dL_law_434 (by decide) rfl rfl (by decide) (Nat.le_of_ble_eq_true rfl) (m_X10_mean m63 (sc (w32 (i3 + 1)).toNat)) (fun r67 m66 em66 => ?_)
          refine T_icmp_eq (pc := 437) (tgt := 1399) dL_law_437 (by decide) (fun h68 => ?_) (fun h68 => ?_)
          · exact hk3  m66
          · refine J_iconst (pc := 440) dL_law_440 ?_
            exact T_retZ (pc := 441) rfl (by decide) dL_law_441
        rw [if_neg h61]
        by_cases h69 : w32 (zand (sc (w32 i3).toNat) 63) = 6
        · rw [if_pos h69]
          refine J_swIn (pc := 33) (j := 6) (tgt := 442) dL_law_33 h69 (by decide) (by decide) rfl (by decide) ?_
          refine J_aload_n (pc := 442) dL_law_442 rfl rfl rfl ?_
          refine J_aload_n (pc := 443) dL_law_443 rfl rfl rfl ?_
          refine J_iload_n (pc := 444) dL_law_444 rfl rfl ?_
          refine J_iconst (pc := 445) dL_law_445 ?_
          refine J_iadd (pc := 446) dL_law_446 ?_
          refine T_scr (pc := 447) hG dL_law_447 (fun h70 => ?_)
          refine J_aload_n (pc := 448) dL_law_448 rfl rfl rfl ?_
          refine J_iload_n (pc := 449) dL_law_449 rfl rfl ?_
          refine J_iconst (pc := 450) dL_law_450 ?_
          refine J_iadd (pc := 451) dL_law_451 ?_
          refine T_scr (pc := 452) hG dL_law_452 (fun h71 => ?_)
          refine T_callVI (pc := 453) (As := [.int (iI (sc (w32 (i3 + 1)).toNat)), .int (iI (sc (w32 (i3 + 2)).toNat))]) (k := 0) (st := []) ok_yX9_text lm_L_41 dL_law_453 (by decide) rfl rfl (by decide) (Nat.le_of_ble_eq_true rfl) (m_X9_text mu18 (sc (w32 (i3 + 1)).toNat) (sc (w32 (i3 + 2)).toNat)) (fun r73 m72 em72 => ?_)
          refine J_aload_n (pc := 456) dL_law_456 rfl rfl rfl ?_
          refine J_aload_n (pc := 457) dL_law_457 rfl rfl rfl ?_
          refine J_iload_n (pc := 458) dL_law_458 rfl rfl ?_
          refine J_iconst (pc := 459) dL_law_459 ?_
          refine J_iadd (pc := 460) dL_law_460 ?_
          refine T_scr (pc := 461) hG dL_law_461 (fun h74 => ?_)
          refine J_aload_n (pc := 462) dL_law_462 rfl rfl rfl ?_
          refine J_iload_n (pc := 463) dL_law_463 rfl rfl ?_
          refine J_iconst (pc := 464) dL_law_464 ?_
          refine J_iadd (pc := 465) dL_law_465 ?_
          refine T_scr (pc := 466) hG dL_law_466 (fun h75 => ?_)
          refine T_callVI (pc := 467) (As := [.int (iI (sc (w32 (i3 + 1)).toNat)), .int (iI (sc (w32 (i3 + 2)).toNat))]) (k := 67) (st := [.int (iI r73)]) ok_yX10_text lm_L_44 dL_law_467 (by decide) rfl rfl (by decide) (Nat.le_of_ble_eq_true rfl) (m_X10_text m72 (sc (w32 (i3 + 1)).toNat) (sc (w32 (i3 + 2)).toNat)) (fun r77 m76 em76 => ?_)
          refine T_icmp_eq (pc := 470) (tgt := 1399) dL_law_470 (by decide) (fun h78 => ?_) (fun h78 => ?_)
          · exact hk3  m76
          · refine J_iconst (pc := 473) dL_law_473 ?_
            exact T_retZ (pc := 474) rfl (by decide) dL_law_474
        rw [if_neg h69]
        by_cases h79 : w32 (zand (sc (w32 i3).toNat) 63) = 7
        · rw [if_pos h79]
          refine J_swIn (pc := 33) (j := 7) (tgt := 475) dL_law_33 h79 (by decide) (by decide) rfl (by decide) ?_
          refine J_aload_n (pc := 475) dL_law_475 rfl rfl rfl ?_
          refine J_aload_n (pc := 476) dL_law_476 rfl rfl rfl ?_
          refine J_iload_n (pc := 477) dL_law_477 rfl rfl ?_
          refine J_iconst (pc := 478) dL_law_478 ?_
          refine J_iadd (pc := 479) dL_law_479 ?_
          refine T_scr (pc := 480) hG dL_law_480 (fun h80 => ?_)
          refine J_aload_n (pc := 481) dL_law_481 rfl rfl rfl ?_
          refine J_iload_n (pc := 482) dL_law_482 rfl rfl ?_
          refine J_iconst (pc := 483) dL_law_483 ?_
          refine J_iadd (pc := 484) dL_law_484 ?_
          refine T_scr (pc := 485) hG dL_law_485 (fun h81 => ?_)
          refine J_aload_n (pc := 486) dL_law_486 rfl rfl rfl ?_
          refine J_iload_n (pc := 487) dL_law_487 rfl rfl ?_
          refine J_iconst (pc := 488) dL_law_488 ?_
          refine J_iadd (pc := 489) dL_law_489 ?_
          refine T_scr (pc := 490) hG dL_law_490 (fun h82 => ?_)
          refine T_callVI (pc := 491) (As := [.int (iI (sc (w32 (i3 + 1)).toNat)), .int (iI (sc (w32 (i3 + 2)).toNat)), .int (iI (sc (w32 (i3 + 3)).toNat))]) (k := 0) (st := []) ok_yX9_put lm_L_45 dL_law_491 (by decide) rfl rfl (by decide) (Nat.le_of_ble_eq_true rfl) (m_X9_put mu18 (sc (w32 (i3 + 1)).toNat) (sc (w32 (i3 + 2)).toNat) (sc (w32 (i3 + 3)).toNat)) (fun r84 m83 em83 => ?_)
          refine J_aload_n (pc := 494) dL_law_494 rfl rfl rfl ?_
          refine J_aload_n (pc := 495) dL_law_495 rfl rfl rfl ?_
          refine J_iload_n (pc := 496) dL_law_496 rfl rfl ?_
          refine J_iconst (pc := 497) dL_law_497 ?_
          refine J_iadd (pc := 498) dL_law_498 ?_
          refine T_scr (pc := 499) hG dL_law_499 (fun h85 => ?_)
          refine J_aload_n (pc := 500) dL_law_500 rfl rfl rfl ?_
          refine J_iload_n (pc := 501) dL_law_501 rfl rfl ?_
          refine J_iconst (pc := 502) dL_law_502 ?_
          refine J_iadd (pc := 503) dL_law_503 ?_
          refine T_scr (pc := 504) hG dL_law_504 (fun h86 => ?_)
          refine J_aload_n (pc := 505) dL_law_505 rfl rfl rfl ?_
          refine J_iload_n (pc := 506) dL_law_506 rfl rfl ?_
          refine J_iconst (pc := 507) dL_law_507 ?_
          refine J_iadd (pc := 508) dL_law_508 ?_
          refine T_scr (pc := 509) hG dL_law_509 (fun h87 => ?_)
          refine T_callVI (pc := 510) (As := [.int (iI (sc (w32 (i3 + 1)).toNat)), .int (iI (sc (w32 (i3 + 2)).toNat)), .int (iI (sc (w32 (i3 + 3)).toNat))]) (k := 67) (st := [.int (iI r84)]) ok_yX10_put lm_L_48 dL_law_510 (by decide) rfl rfl (by decide) (Nat.le_of_ble_eq_true rfl) (m_X10_put m83 (sc (w32 (i3 + 1)).toNat) (sc (w32 (i3 + 2)).toNat) (sc (w32 (i3 + 3)).toNat)) (fun r89 m88 em88 => ?_)
          refine T_icmp_eq (pc := 513) (tgt := 1399) dL_law_513 (by decide) (fun h90 => ?_) (fun h90 => ?_)
          · exact hk3  m88
          · refine J_iconst (pc := 516) dL_law_516 ?_
            exact T_retZ (pc := 517) rfl (by decide) dL_law_517
        rw [if_neg h79]
        by_cases h91 : w32 (zand (sc (w32 i3).toNat) 63) = 8
        · rw [if_pos h91]
          refine J_swIn (pc := 33) (j := 8) (tgt := 518) dL_law_33 h91 (by decide) (by decide) rfl (by decide) ?_
          refine J_aload_n (pc := 518) dL_law_518 rfl rfl rfl ?_
          refine J_aload_n (pc := 519) dL_law_519 rfl rfl rfl ?_
          refine J_iload_n (pc := 520) dL_law_520 rfl rfl ?_
          refine J_iconst (pc := 521) dL_law_521 ?_
          refine J_iadd (pc := 522) dL_law_522 ?_
          refine T_scr (pc := 523) hG dL_law_523 (fun h92 => ?_)
          refine T_callVI (pc := 524) (As := [.int (iI (sc (w32 (i3 + 1)).toNat))]) (k := 0) (st := []) ok_yX9_fault lm_L_49 dL_law_524 (by decide) rfl rfl (by decide) (Nat.le_of_ble_eq_true rfl) (m_X9_fault mu18 (sc (w32 (i3 + 1)).toNat)) (fun r94 m93 em93 => ?_)
          refine J_aload_n (pc := 527) dL_law_527 rfl rfl rfl ?_
          refine J_aload_n (pc := 528) dL_law_528 rfl rfl rfl ?_
          refine J_iload_n (pc := 529) dL_law_529 rfl rfl ?_
          refine J_iconst (pc := 530) dL_law_530 ?_
          refine J_iadd (pc := 531) dL_law_531 ?_
          refine T_scr (pc := 532) hG dL_law_532 (fun h95 => ?_)
          refine T_callVI (pc := 533) (As := [.int (iI (sc (w32 (i3 + 1)).toNat))]) (k := 67) (st := [.int (iI r94)]) ok_yX10_fault lm_L_52 dL_law_533 (by decide) rfl rfl (by decide) (Nat.le_of_ble_eq_true rfl) (m_X10_fault m93 (sc (w32 (i3 + 1)).toNat)) (fun r97 m96 em96 => ?_)
          refine T_icmp_eq (pc := 536) (tgt := 1399) dL_law_536 (by decide) (fun h98 => ?_) (fun h98 => ?_)
          · exact hk3  m96
          · refine J_iconst (pc := 539) dL_law_539 ?_
            exact T_retZ (pc := 540) rfl (by decide) dL_law_540
        rw [if_neg h91]
        by_cases h99 : w32 (zand (sc (w32 i3).toNat) 63) = 9
        · rw [if_pos h99]
          refine J_swIn (pc := 33) (j := 9) (tgt := 541) dL_law_33 h99 (by decide) (by decide) rfl (by decide) ?_
          refine J_aload_n (pc := 541) dL_law_541 rfl rfl rfl ?_
          refine J_aload_n (pc := 542) dL_law_542 rfl rfl rfl ?_
          refine J_iload_n (pc := 543) dL_law_543 rfl rfl ?_
          refine J_iconst (pc := 544) dL_law_544 ?_
          refine J_iadd (pc := 545) dL_law_545 ?_
          refine T_scr (pc := 546) hG dL_law_546 (fun h100 => ?_)
          refine T_callVI (pc := 547) (As := [.int (iI (sc (w32 (i3 + 1)).toNat))]) (k := 0) (st := []) ok_yX9_year lm_L_53 dL_law_547 (by decide) rfl rfl (by decide) (Nat.le_of_ble_eq_true rfl) (m_X9_year mu18 (sc (w32 (i3 + 1)).toNat)) (fun r102 m101 em101 => ?_)
          refine J_aload_n (pc := 550) dL_law_550 rfl rfl rfl ?_
          refine J_aload_n (pc := 551) dL_law_551 rfl rfl rfl ?_
          refine J_iload_n (pc := 552) dL_law_552 rfl rfl ?_
          refine J_iconst (pc := 553) dL_law_553 ?_
          refine J_iadd (pc := 554) dL_law_554 ?_
          refine T_scr (pc := 555) hG dL_law_555 (fun h103 => ?_)
          refine T_callVI (pc := 556) (As := [.int (iI (sc (w32 (i3 + 1)).toNat))]) (k := 67) (st := [.int (iI r102)]) ok_yX10_year lm_L_56 dL_law_556 (by decide) rfl rfl (by decide) (Nat.le_of_ble_eq_true rfl) (m_X10_year m101 (sc (w32 (i3 + 1)).toNat)) (fun r105 m104 em104 => ?_)
          refine T_icmp_eq (pc := 559) (tgt := 1399) dL_law_559 (by decide) (fun h106 => ?_) (fun h106 => ?_)
          · exact hk3  m104
          · refine J_iconst (pc := 562) dL_law_562 ?_
            exact T_retZ (pc := 563) rfl (by decide) dL_law_563
        rw [if_neg h99]
        by_cases h107 : w32 (zand (sc (w32 i3).toNat) 63) = 10
        · rw [if_pos h107]
          refine J_swIn (pc := 33) (j := 10) (tgt := 564) dL_law_33 h107 (by decide) (by decide) rfl (by decide) ?_
          refine J_aload_n (pc := 564) dL_law_564 rfl rfl rfl ?_
          refine J_aload_n (pc := 565) dL_law_565 rfl rfl rfl ?_
          refine J_iload_n (pc := 566) dL_law_566 rfl rfl ?_
          refine J_iconst (pc := 567) dL_law_567 ?_
          refine J_iadd (pc := 568) dL_law_568 ?_
          refine T_scr (pc := 569) hG dL_law_569 (fun h108 => ?_)
          refine J_aload_n (pc := 570) dL_law_570 rfl rfl rfl ?_
          refine J_iload_n (pc := 571) dL_law_571 rfl rfl ?_
          refine J_iconst (pc := 572) dL_law_572 ?_
          refine J_iadd (pc := 573) dL_law_573 ?_
          refine T_scr (pc := 574) hG dL_law_574 (fun h109 => ?_)
          refine T_callVI (pc := 575) (As := [.int (iI (sc (w32 (i3 + 1)).toNat)), .int (iI (sc (w32 (i3 + 2)).toNat))]) (k := 0) (st := []) ok_yX9_cape lm_L_57 dL_law_575 (by decide) rfl rfl (by decide) (Nat.le_of_ble_eq_true rfl) (m_X9_cape mu18 (sc (w32 (i3 + 1)).toNat) (sc (w32 (i3 + 2)).toNat)) (fun r111 m110 em110 => ?_)
          refine J_aload_n (pc := 578) dL_law_578 rfl rfl rfl ?_
          refine J_aload_n (pc := 579) dL_law_579 rfl rfl rfl ?_
          refine J_iload_n (pc := 580) dL_law_580 rfl rfl ?_
          refine J_iconst (pc := 581) dL_law_581 ?_
          refine J_iadd (pc := 582) dL_law_582 ?_
          refine T_scr (pc := 583) hG dL_law_583 (fun h112 => ?_)
          refine J_aload_n (pc := 584) dL_law_584 rfl rfl rfl ?_
          refine J_iload_n (pc := 585) dL_law_585 rfl rfl ?_
          refine J_iconst (pc := 586) dL_law_586 ?_
          refine J_iadd (pc := 587) dL_law_587 ?_
          refine T_scr (pc := 588) hG dL_law_588 (fun h113 => ?_)
          refine T_callVI (pc := 589) (As := [.int (iI (sc (w32 (i3 + 1)).toNat)), .int (iI (sc (w32 (i3 + 2)).toNat))]) (k := 67) (st := [.int (iI r111)]) ok_yX10_cape lm_L_60 dL_law_589 (by decide) rfl rfl (by decide) (Nat.le_of_ble_eq_true rfl) (m_X10_cape m110 (sc (w32 (i3 + 1)).toNat) (sc (w32 (i3 + 2)).toNat)) (fun r115 m114 em114 => ?_)
          refine T_icmp_eq (pc := 592) (tgt := 1399) dL_law_592 (by decide) (fun h116 => ?_) (fun h116 => ?_)
          · exact hk3  m114
          · refine J_iconst (pc := 595) dL_law_595 ?_
            exact T_retZ (pc := 596) rfl (by decide) dL_law_596
        rw [if_neg h107]
        by_cases h117 : w32 (zand (sc (w32 i3).toNat) 63) = 11
        · rw [if_pos h117]
          refine J_swIn (pc := 33) (j := 11) (tgt := 597) dL_law_33 h117 (by decide) (by decide) rfl (by decide) ?_
          refine J_aload_n (pc := 597) dL_law_597 rfl rfl rfl ?_
          refine J_aload_n (pc := 598) dL_law_598 rfl rfl rfl ?_
          refine J_iload_n (pc := 599) dL_law_599 rfl rfl ?_
          refine J_iconst (pc := 600) dL_law_600 ?_
          refine J_iadd (pc := 601) dL_law_601 ?_
          refine T_scr (pc := 602) hG dL_law_602 (fun h118 => ?_)
          refine J_aload_n (pc := 603) dL_law_603 rfl rfl rfl ?_
          refine J_iload_n (pc := 604) dL_law_604 rfl rfl ?_
          refine J_iconst (pc := 605) dL_law_605 ?_
          refine J_iadd (pc := 606) dL_law_606 ?_
          refine T_scr (pc := 607) hG dL_law_607 (fun h119 => ?_)
          refine T_callVI (pc := 608) (As := [.int (iI (sc (w32 (i3 + 1)).toNat)), .int (iI (sc (w32 (i3 + 2)).toNat))]) (k := 0) (st := []) ok_yX9_valley lm_L_61 dL_law_608 (by decide) rfl rfl (by decide) (Nat.le_of_ble_eq_true rfl) (m_X9_valley mu18 (sc (w32 (i3 + 1)).toNat) (sc (w32 (i3 + 2)).toNat)) (fun r121 m120 em120 => ?_)
          refine J_aload_n (pc := 611) dL_law_611 rfl rfl rfl ?_
          refine J_aload_n (pc := 612) dL_law_612 rfl rfl rfl ?_
          refine J_iload_n (pc := 613) dL_law_613 rfl rfl ?_
          refine J_iconst (pc := 614) dL_law_614 ?_
          refine J_iadd (pc := 615) dL_law_615 ?_
          refine T_scr (pc := 616) hG dL_law_616 (fun h122 => ?_)
          refine J_aload_n (pc := 617) dL_law_617 rfl rfl rfl ?_
          refine J_iload_n (pc := 618) dL_law_618 rfl rfl ?_
          refine J_iconst (pc := 619) dL_law_619 ?_
          refine J_iadd (pc := 620) dL_law_620 ?_
          refine T_scr (pc := 621) hG dL_law_621 (fun h123 => ?_)
          refine T_callVI (pc := 622) (As := [.int (iI (sc (w32 (i3 + 1)).toNat)), .int (iI (sc (w32 (i3 + 2)).toNat))]) (k := 67) (st := [.int (iI r121)]) ok_yX10_valley lm_L_64 dL_law_622 (by decide) rfl rfl (by decide) (Nat.le_of_ble_eq_true rfl) (m_X10_valley m120 (sc (w32 (i3 + 1)).toNat) (sc (w32 (i3 + 2)).toNat)) (fun r125 m124 em124 => ?_)
          refine T_icmp_eq (pc := 625) (tgt := 1399) dL_law_625 (by decide) (fun h126 => ?_) (fun h126 => ?_)
          · exact hk3  m124
          · refine J_iconst (pc := 628) dL_law_628 ?_
            exact T_retZ (pc := 629) rfl (by decide) dL_law_629
        rw [if_neg h117]
        by_cases h127 : w32 (zand (sc (w32 i3).toNat) 63) = 12
        · rw [if_pos h127]
          refine J_swIn (pc := 33) (j := 12) (tgt := 630) dL_law_33 h127 (by decide) (by decide) rfl (by decide) ?_
          refine J_aload_n (pc := 630) dL_law_630 rfl rfl rfl ?_
          refine J_aload_n (pc := 631) dL_law_631 rfl rfl rfl ?_
          refine J_iload_n (pc := 632) dL_law_632 rfl rfl ?_
          refine J_iconst (pc := 633) dL_law_633 ?_
          refine J_iadd (pc := 634) dL_law_634 ?_
          refine T_scr (pc := 635) hG dL_law_635 (fun h128 => ?_)
          refine J_aload_n (pc := 636) dL_law_636 rfl rfl rfl ?_
          refine J_iload_n (pc := 637) dL_law_637 rfl rfl ?_
          refine J_iconst (pc := 638) dL_law_638 ?_
          refine J_iadd (pc := 639) dL_law_639 ?_
          refine T_scr (pc := 640) hG dL_law_640 (fun h129 => ?_)
          refine T_callVI (pc := 641) (As := [.int (iI (sc (w32 (i3 + 1)).toNat)), .int (iI (sc (w32 (i3 + 2)).toNat))]) (k := 0) (st := []) ok_yX9_mark lm_L_65 dL_law_641 (by decide) rfl rfl (by decide) (Nat.le_of_ble_eq_true rfl) (m_X9_mark mu18 (sc (w32 (i3 + 1)).toNat) (sc (w32 (i3 + 2)).toNat)) (fun r131 m130 em130 => ?_)
          refine J_aload_n (pc := 644) dL_law_644 rfl rfl rfl ?_
          refine J_aload_n (pc := 645) dL_law_645 rfl rfl rfl ?_
          refine J_iload_n (pc := 646) dL_law_646 rfl rfl ?_
          refine J_iconst (pc := 647) dL_law_647 ?_
          refine J_iadd (pc := 648) dL_law_648 ?_
          refine T_scr (pc := 649) hG dL_law_649 (fun h132 => ?_)
          refine J_aload_n (pc := 650) dL_law_650 rfl rfl rfl ?_
          refine J_iload_n (pc := 651) dL_law_651 rfl rfl ?_
          refine J_iconst (pc := 652) dL_law_652 ?_
          refine J_iadd (pc := 653) dL_law_653 ?_
          refine T_scr (pc := 654) hG dL_law_654 (fun h133 => ?_)
          refine T_callVI (pc := 655) (As := [.int (iI (sc (w32 (i3 + 1)).toNat)), .int (iI (sc (w32 (i3 + 2)).toNat))]) (k := 67) (st := [.int (iI r131)]) ok_yX10_mark lm_L_68 dL_law_655 (by decide) rfl rfl (by decide) (Nat.le_of_ble_eq_true rfl) (m_X10_mark m130 (sc (w32 (i3 + 1)).toNat) (sc (w32 (i3 + 2)).toNat)) (fun r135 m134 em134 => ?_)
          refine T_icmp_eq (pc := 658) (tgt := 1399) dL_law_658 (by decide) (fun h136 => ?_) (fun h136 => ?_)
          · exact hk3  m134
          · refine J_iconst (pc := 661) dL_law_661 ?_
            exact T_retZ (pc := 662) rfl (by decide) dL_law_662
        rw [if_neg h127]
        by_cases h137 : w32 (zand (sc (w32 i3).toNat) 63) = 13
        · rw [if_pos h137]
          refine J_swIn (pc := 33) (j := 13) (tgt := 663) dL_law_33 h137 (by decide) (by decide) rfl (by decide) ?_
          refine J_aload_n (pc := 663) dL_law_663 rfl rfl rfl ?_
          refine J_aload_n (pc := 664) dL_law_664 rfl rfl rfl ?_
          refine J_iload_n (pc := 665) dL_law_665 rfl rfl ?_
          refine J_iconst (pc := 666) dL_law_666 ?_
          refine J_iadd (pc := 667) dL_law_667 ?_
          refine T_scr (pc := 668) hG dL_law_668 (fun h138 => ?_)
          refine J_aload_n (pc := 669) dL_law_669 rfl rfl rfl ?_
          refine J_iload_n (pc := 670) dL_law_670 rfl rfl ?_
          refine J_iconst (pc := 671) dL_law_671 ?_
          refine J_iadd (pc := 672) dL_law_672 ?_
          refine T_scr (pc := 673) hG dL_law_673 (fun h139 => ?_)
          refine T_callVI (pc := 674) (As := [.int (iI (sc (w32 (i3 + 1)).toNat)), .int (iI (sc (w32 (i3 + 2)).toNat))]) (k := 0) (st := []) ok_yX9_price lm_L_69 dL_law_674 (by decide) rfl rfl (by decide) (Nat.le_of_ble_eq_true rfl) (m_X9_price mu18 (sc (w32 (i3 + 1)).toNat) (sc (w32 (i3 + 2)).toNat)) (fun r141 m140 em140 => ?_)
          refine J_aload_n (pc := 677) dL_law_677 rfl rfl rfl ?_
          refine J_aload_n (pc := 678) dL_law_678 rfl rfl rfl ?_
          refine J_iload_n (pc := 679) dL_law_679 rfl rfl ?_
          refine J_iconst (pc := 680) dL_law_680 ?_
          refine J_iadd (pc := 681) dL_law_681 ?_
          refine T_scr (pc := 682) hG dL_law_682 (fun h142 => ?_)
          refine J_aload_n (pc := 683) dL_law_683 rfl rfl rfl ?_
          refine J_iload_n (pc := 684) dL_law_684 rfl rfl ?_
          refine J_iconst (pc := 685) dL_law_685 ?_
          refine J_iadd (pc := 686) dL_law_686 ?_
          refine T_scr (pc := 687) hG dL_law_687 (fun h143 => ?_)
          refine T_callVI (pc := 688) (As := [.int (iI (sc (w32 (i3 + 1)).toNat)), .int (iI (sc (w32 (i3 + 2)).toNat))]) (k := 67) (st := [.int (iI r141)]) ok_yX10_price lm_L_72 dL_law_688 (by decide) rfl rfl (by decide) (Nat.le_of_ble_eq_true rfl) (m_X10_price m140 (sc (w32 (i3 + 1)).toNat) (sc (w32 (i3 + 2)).toNat)) (fun r145 m144 em144 => ?_)
          refine T_icmp_eq (pc := 691) (tgt := 1399) dL_law_691 (by decide) (fun h146 => ?_) (fun h146 => ?_)
          · exact hk3  m144
          · refine J_iconst (pc := 694) dL_law_694 ?_
            exact T_retZ (pc := 695) rfl (by decide) dL_law_695
        rw [if_neg h137]
        by_cases h147 : w32 (zand (sc (w32 i3).toNat) 63) = 14
        · rw [if_pos h147]
          refine J_swIn (pc := 33) (j := 14) (tgt := 696) dL_law_33 h147 (by decide) (by decide) rfl (by decide) ?_
          refine J_aload_n (pc := 696) dL_law_696 rfl rfl rfl ?_
          refine J_aload_n (pc := 697) dL_law_697 rfl rfl rfl ?_
          refine J_iload_n (pc := 698) dL_law_698 rfl rfl ?_
          refine J_iconst (pc := 699) dL_law_699 ?_
          refine J_iadd (pc := 700) dL_law_700 ?_
          refine T_scr (pc := 701) hG dL_law_701 (fun h148 => ?_)
          refine T_callVI (pc := 702) (As := [.int (iI (sc (w32 (i3 + 1)).toNat))]) (k := 0) (st := []) ok_yX9_hold lm_L_73 dL_law_702 (by decide) rfl rfl (by decide) (Nat.le_of_ble_eq_true rfl) (m_X9_hold mu18 (sc (w32 (i3 + 1)).toNat)) (fun r150 m149 em149 => ?_)
          refine J_aload_n (pc := 705) dL_law_705 rfl rfl rfl ?_
          refine J_aload_n (pc := 706) dL_law_706 rfl rfl rfl ?_
          refine J_iload_n (pc := 707) dL_law_707 rfl rfl ?_
          refine J_iconst (pc := 708) dL_law_708 ?_
          refine J_iadd (pc := 709) dL_law_709 ?_
          refine T_scr (pc := 710) hG dL_law_710 (fun h151 => ?_)
          refine T_callVI (pc := 711) (As := [.int (iI (sc (w32 (i3 + 1)).toNat))]) (k := 67) (st := [.int (iI r150)]) ok_yX10_hold lm_L_76 dL_law_711 (by decide) rfl rfl (by decide) (Nat.le_of_ble_eq_true rfl) (m_X10_hold m149 (sc (w32 (i3 + 1)).toNat)) (fun r153 m152 em152 => ?_)
          refine T_icmp_eq (pc := 714) (tgt := 1399) dL_law_714 (by decide) (fun h154 => ?_) (fun h154 => ?_)
          · exact hk3  m152
          · refine J_iconst (pc := 717) dL_law_717 ?_
            exact T_retZ (pc := 718) rfl (by decide) dL_law_718
        rw [if_neg h147]
        by_cases h155 : w32 (zand (sc (w32 i3).toNat) 63) = 15
        · rw [if_pos h155]
          refine J_swIn (pc := 33) (j := 15) (tgt := 719) dL_law_33 h155 (by decide) (by decide) rfl (by decide) ?_
          refine J_aload_n (pc := 719) dL_law_719 rfl rfl rfl ?_
          refine J_aload_n (pc := 720) dL_law_720 rfl rfl rfl ?_
          refine J_iload_n (pc := 721) dL_law_721 rfl rfl ?_
          refine J_iconst (pc := 722) dL_law_722 ?_
          refine J_iadd (pc := 723) dL_law_723 ?_
          refine T_scr (pc := 724) hG dL_law_724 (fun h156 => ?_)
          refine J_aload_n (pc := 725) dL_law_725 rfl rfl rfl ?_
          refine J_iload_n (pc := 726) dL_law_726 rfl rfl ?_
          refine J_iconst (pc := 727) dL_law_727 ?_
          refine J_iadd (pc := 728) dL_law_728 ?_
          refine T_scr (pc := 729) hG dL_law_729 (fun h157 => ?_)
          refine T_callVI (pc := 730) (As := [.int (iI (sc (w32 (i3 + 1)).toNat)), .int (iI (sc (w32 (i3 + 2)).toNat))]) (k := 0) (st := []) ok_yX9_rope lm_L_77 dL_law_730 (by decide) rfl rfl (by decide) (Nat.le_of_ble_eq_true rfl) (m_X9_rope mu18 (sc (w32 (i3 + 1)).toNat) (sc (w32 (i3 + 2)).toNat)) (fun r159 m158 em158 => ?_)
          refine J_aload_n (pc := 733) dL_law_733 rfl rfl rfl ?_
          refine J_aload_n (pc := 734) dL_law_734 rfl rfl rfl ?_
          refine J_iload_n (pc := 735) dL_law_735 rfl rfl ?_
          refine J_iconst (pc := 736) dL_law_736 ?_
          refine J_iadd (pc := 737) dL_law_737 ?_
          refine T_scr (pc := 738) hG dL_law_738 (fun h160 => ?_)
          refine J_aload_n (pc := 739) dL_law_739 rfl rfl rfl ?_
          refine J_iload_n (pc := 740) dL_law_740 rfl rfl ?_
          refine J_iconst (pc := 741) dL_law_741 ?_
          refine J_iadd (pc := 742) dL_law_742 ?_
          refine T_scr (pc := 743) hG dL_law_743 (fun h161 => ?_)
          refine T_callVI (pc := 744) (As := [.int (iI (sc (w32 (i3 + 1)).toNat)), .int (iI (sc (w32 (i3 + 2)).toNat))]) (k := 67) (st := [.int (iI r159)]) ok_yX10_rope lm_L_80 dL_law_744 (by decide) rfl rfl (by decide) (Nat.le_of_ble_eq_true rfl) (m_X10_rope m158 (sc (w32 (i3 + 1)).toNat) (sc (w32 (i3 + 2)).toNat)) (fun r163 m162 em162 => ?_)
          refine T_icmp_eq (pc := 747) (tgt := 1399) dL_law_747 (by decide) (fun h164 => ?_) (fun h164 => ?_)
          · exact hk3  m162
          · refine J_iconst (pc := 750) dL_law_750 ?_
            exact T_retZ (pc := 751) rfl (by decide) dL_law_751
        rw [if_neg h155]
        by_cases h165 : w32 (zand (sc (w32 i3).toNat) 63) = 16
        · rw [if_pos h165]
          refine J_swIn (pc := 33) (j := 16) (tgt := 752) dL_law_33 h165 (by decide) (by decide) rfl (by decide) ?_
          refine J_aload_n (pc := 752) dL_law_752 rfl rfl rfl ?_
          refine T_callVI (pc := 753) (As := []) (k := 0) (st := []) ok_yX9_rise lm_L_81 dL_law_753 (by decide) rfl rfl (by decide) (Nat.le_of_ble_eq_true rfl) (m_X9_rise mu18) (fun r167 m166 em166 => ?_)
          refine J_aload_n (pc := 756) dL_law_756 rfl rfl rfl ?_
          refine T_callVI (pc := 757) (As := []) (k := 67) (st := [.int (iI r167)]) ok_yX10_rise lm_L_85 dL_law_757 (by decide) rfl rfl (by decide) (Nat.le_of_ble_eq_true rfl) (m_X10_rise m166) (fun r169 m168 em168 => ?_)
          refine T_icmp_eq (pc := 760) (tgt := 1399) dL_law_760 (by decide) (fun h170 => ?_) (fun h170 => ?_)
          · exact hk3  m168
          · refine J_iconst (pc := 763) dL_law_763 ?_
            exact T_retZ (pc := 764) rfl (by decide) dL_law_764
        rw [if_neg h165]
        by_cases h171 : w32 (zand (sc (w32 i3).toNat) 63) = 17
        · rw [if_pos h171]
          refine J_swIn (pc := 33) (j := 17) (tgt := 765) dL_law_33 h171 (by decide) (by decide) rfl (by decide) ?_
          refine J_aload_n (pc := 765) dL_law_765 rfl rfl rfl ?_
          refine J_aload_n (pc := 766) dL_law_766 rfl rfl rfl ?_
          refine J_iload_n (pc := 767) dL_law_767 rfl rfl ?_
          refine J_iconst (pc := 768) dL_law_768 ?_
          refine J_iadd (pc := 769) dL_law_769 ?_
          refine T_scr (pc := 770) hG dL_law_770 (fun h172 => ?_)
          refine T_callVI (pc := 771) (As := [.int (iI (sc (w32 (i3 + 1)).toNat))]) (k := 0) (st := []) ok_yX9_undo lm_L_86 dL_law_771 (by decide) rfl rfl (by decide) (Nat.le_of_ble_eq_true rfl) (m_X9_undo mu18 (sc (w32 (i3 + 1)).toNat)) (fun r174 m173 em173 => ?_)
          refine J_aload_n (pc := 774) dL_law_774 rfl rfl rfl ?_
          refine J_aload_n (pc := 775) dL_law_775 rfl rfl rfl ?_
          refine J_iload_n (pc := 776) dL_law_776 rfl rfl ?_
          refine J_iconst (pc := 777) dL_law_777 ?_
          refine J_iadd (pc := 778) dL_law_778 ?_
          refine T_scr (pc := 779) hG dL_law_779 (fun h175 => ?_)
          refine T_callVI (pc := 780) (As := [.int (iI (sc (w32 (i3 + 1)).toNat))]) (k := 67) (st := [.int (iI r174)]) ok_yX10_undo lm_L_89 dL_law_780 (by decide) rfl rfl (by decide) (Nat.le_of_ble_eq_true rfl) (m_X10_undo m173 (sc (w32 (i3 + 1)).toNat)) (fun r177 m176 em176 => ?_)
          refine T_icmp_eq (pc := 783) (tgt := 1399) dL_law_783 (by decide) (fun h178 => ?_) (fun h178 => ?_)
          · exact hk3  m176
          · refine J_iconst (pc := 786) dL_law_786 ?_
            exact T_retZ (pc := 787) rfl (by decide) dL_law_787
        rw [if_neg h171]
        by_cases h179 : w32 (zand (sc (w32 i3).toNat) 63) = 18
        · rw [if_pos h179]
          refine J_swIn (pc := 33) (j := 18) (tgt := 788) dL_law_33 h179 (by decide) (by decide) rfl (by decide) ?_
          refine J_aload_n (pc := 788) dL_law_788 rfl rfl rfl ?_
          refine T_callVI (pc := 789) (As := []) (k := 0) (st := []) ok_yX9_sun lm_L_90 dL_law_789 (by decide) rfl rfl (by decide) (Nat.le_of_ble_eq_true rfl) (m_X9_sun mu18) (fun r181 m180 em180 => ?_)
          refine J_aload_n (pc := 792) dL_law_792 rfl rfl rfl ?_
          refine T_callVI (pc := 793) (As := []) (k := 67) (st := [.int (iI r181)]) ok_yX10_sun lm_L_93 dL_law_793 (by decide) rfl rfl (by decide) (Nat.le_of_ble_eq_true rfl) (m_X10_sun m180) (fun r183 m182 em182 => ?_)
          refine T_icmp_eq (pc := 796) (tgt := 1399) dL_law_796 (by decide) (fun h184 => ?_) (fun h184 => ?_)
          · exact hk3  m182
          · refine J_iconst (pc := 799) dL_law_799 ?_
            exact T_retZ (pc := 800) rfl (by decide) dL_law_800
        rw [if_neg h179]
        by_cases h185 : w32 (zand (sc (w32 i3).toNat) 63) = 19
        · rw [if_pos h185]
          refine J_swIn (pc := 33) (j := 19) (tgt := 801) dL_law_33 h185 (by decide) (by decide) rfl (by decide) ?_
          refine J_aload_n (pc := 801) dL_law_801 rfl rfl rfl ?_
          refine T_callVI (pc := 802) (As := []) (k := 0) (st := []) ok_yX9_gained lm_L_94 dL_law_802 (by decide) rfl rfl (by decide) (Nat.le_of_ble_eq_true rfl) (m_X9_gained mu18) (fun r187 m186 em186 => ?_)
          refine J_aload_n (pc := 805) dL_law_805 rfl rfl rfl ?_
          refine T_callVI (pc := 806) (As := []) (k := 67) (st := [.int (iI r187)]) ok_yX10_gained lm_L_97 dL_law_806 (by decide) rfl rfl (by decide) (Nat.le_of_ble_eq_true rfl) (m_X10_gained m186) (fun r189 m188 em188 => ?_)
          refine T_icmp_eq (pc := 809) (tgt := 1399) dL_law_809 (by decide) (fun h190 => ?_) (fun h190 => ?_)
          · exact hk3  m188
          · refine J_iconst (pc := 812) dL_law_812 ?_
            exact T_retZ (pc := 813) rfl (by decide) dL_law_813
        rw [if_neg h185]
        by_cases h191 : w32 (zand (sc (w32 i3).toNat) 63) = 20
        · rw [if_pos h191]
          refine J_swIn (pc := 33) (j := 20) (tgt := 814) dL_law_33 h191 (by decide) (by decide) rfl (by decide) ?_
          refine J_aload_n (pc := 814) dL_law_814 rfl rfl rfl ?_
          refine J_aload_n (pc := 815) dL_law_815 rfl rfl rfl ?_
          refine J_iload_n (pc := 816) dL_law_816 rfl rfl ?_
          refine J_iconst (pc := 817) dL_law_817 ?_
          refine J_iadd (pc := 818) dL_law_818 ?_
          refine T_scr (pc := 819) hG dL_law_819 (fun h192 => ?_)
          refine T_callVI (pc := 820) (As := [.int (iI (sc (w32 (i3 + 1)).toNat))]) (k := 0) (st := []) ok_yX9_keep lm_L_98 dL_law_820 (by decide) rfl rfl (by decide) (Nat.le_of_ble_eq_true rfl) (m_X9_keep mu18 (sc (w32 (i3 + 1)).toNat)) (fun r194 m193 em193 => ?_)
          refine J_aload_n (pc := 823) dL_law_823 rfl rfl rfl ?_
          refine J_aload_n (pc := 824) dL_law_824 rfl rfl rfl ?_
          refine J_iload_n (pc := 825) dL_law_825 rfl rfl ?_
          refine J_iconst (pc := 826) dL_law_826 ?_
          refine J_iadd (pc := 827) dL_law_827 ?_
          refine T_scr (pc := 828) hG dL_law_828 (fun h195 => ?_)
          refine T_callVI (pc := 829) (As := [.int (iI (sc (w32 (i3 + 1)).toNat))]) (k := 67) (st := [.int (iI r194)]) ok_yX10_keep lm_L_101 dL_law_829 (by decide) rfl rfl (by decide) (Nat.le_of_ble_eq_true rfl) (m_X10_keep m193 (sc (w32 (i3 + 1)).toNat)) (fun r197 m196 em196 => ?_)
          refine T_icmp_eq (pc := 832) (tgt := 1399) dL_law_832 (by decide) (fun h198 => ?_) (fun h198 => ?_)
          · exact hk3  m196
          · refine J_iconst (pc := 835) dL_law_835 ?_
            exact T_retZ (pc := 836) rfl (by decide) dL_law_836
        rw [if_neg h191]
        by_cases h199 : w32 (zand (sc (w32 i3).toNat) 63) = 21
        · rw [if_pos h199]
          refine J_swIn (pc := 33) (j := 21) (tgt := 837) dL_law_33 h199 (by decide) (by decide) rfl (by decide) ?_
          refine J_aload_n (pc := 837) dL_law_837 rfl rfl rfl ?_
          refine J_aload_n (pc := 838) dL_law_838 rfl rfl rfl ?_
          refine J_iload_n (pc := 839) dL_law_839 rfl rfl ?_
          refine J_iconst (pc := 840) dL_law_840 ?_
          refine J_iadd (pc := 841) dL_law_841 ?_
          refine T_scr (pc := 842) hG dL_law_842 (fun h200 => ?_)
          refine T_callVI (pc := 843) (As := [.int (iI (sc (w32 (i3 + 1)).toNat))]) (k := 0) (st := []) ok_yX9_on lm_L_102 dL_law_843 (by decide) rfl rfl (by decide) (Nat.le_of_ble_eq_true rfl) (m_X9_on mu18 (sc (w32 (i3 + 1)).toNat)) (fun r202 m201 em201 => ?_)
          refine J_aload_n (pc := 846) dL_law_846 rfl rfl rfl ?_
          refine J_aload_n (pc := 847) dL_law_847 rfl rfl rfl ?_
          refine J_iload_n (pc := 848) dL_law_848 rfl rfl ?_
          refine J_iconst (pc := 849) dL_law_849 ?_
          refine J_iadd (pc := 850) dL_law_850 ?_
          refine T_scr (pc := 851) hG dL_law_851 (fun h203 => ?_)
          refine T_callVI (pc := 852) (As := [.int (iI (sc (w32 (i3 + 1)).toNat))]) (k := 67) (st := [.int (iI r202)]) ok_yX10_on lm_L_105 dL_law_852 (by decide) rfl rfl (by decide) (Nat.le_of_ble_eq_true rfl) (m_X10_on m201 (sc (w32 (i3 + 1)).toNat)) (fun r205 m204 em204 => ?_)
          refine T_icmp_eq (pc := 855) (tgt := 1399) dL_law_855 (by decide) (fun h206 => ?_) (fun h206 => ?_)
          · exact hk3  m204
          · refine J_iconst (pc := 858) dL_law_858 ?_
            exact T_retZ (pc := 859) rfl (by decide) dL_law_859
        rw [if_neg h199]
        by_cases h207 : w32 (zand (sc (w32 i3).toNat) 63) = 22
        · rw [if_pos h207]
          refine J_swIn (pc := 33) (j := 22) (tgt := 860) dL_law_33 h207 (by decide) (by decide) rfl (by decide) ?_
          refine J_aload_n (pc := 860) dL_law_860 rfl rfl rfl ?_
          refine J_aload_n (pc := 861) dL_law_861 rfl rfl rfl ?_
          refine J_iload_n (pc := 862) dL_law_862 rfl rfl ?_
          refine J_iconst (pc := 863) dL_law_863 ?_
          refine J_iadd (pc := 864) dL_law_864 ?_
          refine T_scr (pc := 865) hG dL_law_865 (fun h208 => ?_)
          refine T_callVI (pc := 866) (As := [.int (iI (sc (w32 (i3 + 1)).toNat))]) (k := 0) (st := []) ok_yX9_run lm_L_106 dL_law_866 (by decide) rfl rfl (by decide) (Nat.le_of_ble_eq_true rfl) (m_X9_run mu18 (sc (w32 (i3 + 1)).toNat)) (fun r210 m209 em209 => ?_)
          refine J_aload_n (pc := 869) dL_law_869 rfl rfl rfl ?_
          refine J_aload_n (pc := 870) dL_law_870 rfl rfl rfl ?_
          refine J_iload_n (pc := 871) dL_law_871 rfl rfl ?_
          refine J_iconst (pc := 872) dL_law_872 ?_
          refine J_iadd (pc := 873) dL_law_873 ?_
          refine T_scr (pc := 874) hG dL_law_874 (fun h211 => ?_)
          refine T_callVI (pc := 875) (As := [.int (iI (sc (w32 (i3 + 1)).toNat))]) (k := 67) (st := [.int (iI r210)]) ok_yX10_run lm_L_109 dL_law_875 (by decide) rfl rfl (by decide) (Nat.le_of_ble_eq_true rfl) (m_X10_run m209 (sc (w32 (i3 + 1)).toNat)) (fun r213 m212 em212 => ?_)
          refine T_icmp_eq (pc := 878) (tgt := 1399) dL_law_878 (by decide) (fun h214 => ?_) (fun h214 => ?_)
          · exact hk3  m212
          · refine J_iconst (pc := 881) dL_law_881 ?_
            exact T_retZ (pc := 882) rfl (by decide) dL_law_882
        rw [if_neg h207]
        by_cases h215 : w32 (zand (sc (w32 i3).toNat) 63) = 23
        · rw [if_pos h215]
          refine J_swIn (pc := 33) (j := 23) (tgt := 883) dL_law_33 h215 (by decide) (by decide) rfl (by decide) ?_
          refine J_aload_n (pc := 883) dL_law_883 rfl rfl rfl ?_
          refine J_aload_n (pc := 884) dL_law_884 rfl rfl rfl ?_
          refine J_iload_n (pc := 885) dL_law_885 rfl rfl ?_
          refine J_iconst (pc := 886) dL_law_886 ?_
          refine J_iadd (pc := 887) dL_law_887 ?_
          refine T_scr (pc := 888) hG dL_law_888 (fun h216 => ?_)
          refine T_callVI (pc := 889) (As := [.int (iI (sc (w32 (i3 + 1)).toNat))]) (k := 0) (st := []) ok_yX9_burns lm_L_110 dL_law_889 (by decide) rfl rfl (by decide) (Nat.le_of_ble_eq_true rfl) (m_X9_burns mu18 (sc (w32 (i3 + 1)).toNat)) (fun r218 m217 em217 => ?_)
          refine J_aload_n (pc := 892) dL_law_892 rfl rfl rfl ?_
          refine J_aload_n (pc := 893) dL_law_893 rfl rfl rfl ?_
          refine J_iload_n (pc := 894) dL_law_894 rfl rfl ?_
          refine J_iconst (pc := 895) dL_law_895 ?_
          refine J_iadd (pc := 896) dL_law_896 ?_
          refine T_scr (pc := 897) hG dL_law_897 (fun h219 => ?_)
          refine T_callVI (pc := 898) (As := [.int (iI (sc (w32 (i3 + 1)).toNat))]) (k := 67) (st := [.int (iI r218)]) ok_yX10_burns lm_L_113 dL_law_898 (by decide) rfl rfl (by decide) (Nat.le_of_ble_eq_true rfl) (m_X10_burns m217 (sc (w32 (i3 + 1)).toNat)) (fun r221 m220 em220 => ?_)
          refine T_icmp_eq (pc := 901) (tgt := 1399) dL_law_901 (by decide) (fun h222 => ?_) (fun h222 => ?_)
          · exact hk3  m220
          · refine J_iconst (pc := 904) dL_law_904 ?_
            exact T_retZ (pc := 905) rfl (by decide) dL_law_905
        rw [if_neg h215]
        by_cases h223 : w32 (zand (sc (w32 i3).toNat) 63) = 24
        · rw [if_pos h223]
          refine J_swIn (pc := 33) (j := 24) (tgt := 906) dL_law_33 h223 (by decide) (by decide) rfl (by decide) ?_
          refine J_aload_n (pc := 906) dL_law_906 rfl rfl rfl ?_
          refine J_aload_n (pc := 907) dL_law_907 rfl rfl rfl ?_
          refine J_iload_n (pc := 908) dL_law_908 rfl rfl ?_
          refine J_iconst (pc := 909) dL_law_909 ?_
          refine J_iadd (pc := 910) dL_law_910 ?_
          refine T_scr (pc := 911) hG dL_law_911 (fun h224 => ?_)
          refine J_aload_n (pc := 912) dL_law_912 rfl rfl rfl ?_
          refine J_iload_n (pc := 913) dL_law_913 rfl rfl ?_
          refine J_iconst (pc := 914) dL_law_914 ?_
          refine J_iadd (pc := 915) dL_law_915 ?_
          refine T_scr (pc := 916) hG dL_law_916 (fun h225 => ?_)
          refine T_callVI (pc := 917) (As := [.int (iI (sc (w32 (i3 + 1)).toNat)), .int (iI (sc (w32 (i3 + 2)).toNat))]) (k := 0) (st := []) ok_yX9_best lm_L_114 dL_law_917 (by decide) rfl rfl (by decide) (Nat.le_of_ble_eq_true rfl) (m_X9_best mu18 (sc (w32 (i3 + 1)).toNat) (sc (w32 (i3 + 2)).toNat)) (fun r227 m226 em226 => ?_)
          refine J_aload_n (pc := 920) dL_law_920 rfl rfl rfl ?_
          refine J_aload_n (pc := 921) dL_law_921 rfl rfl rfl ?_
          refine J_iload_n (pc := 922) dL_law_922 rfl rfl ?_
          refine J_iconst (pc := 923) dL_law_923 ?_
          refine J_iadd (pc := 924) dL_law_924 ?_
          refine T_scr (pc := 925) hG dL_law_925 (fun h228 => ?_)
          refine J_aload_n (pc := 926) dL_law_926 rfl rfl rfl ?_
          refine J_iload_n (pc := 927) dL_law_927 rfl rfl ?_
          refine J_iconst (pc := 928) dL_law_928 ?_
          refine J_iadd (pc := 929) dL_law_929 ?_
          refine T_scr (pc := 930) hG dL_law_930 (fun h229 => ?_)
          refine T_callVI (pc := 931) (As := [.int (iI (sc (w32 (i3 + 1)).toNat)), .int (iI (sc (w32 (i3 + 2)).toNat))]) (k := 67) (st := [.int (iI r227)]) ok_yX10_best lm_L_117 dL_law_931 (by decide) rfl rfl (by decide) (Nat.le_of_ble_eq_true rfl) (m_X10_best m226 (sc (w32 (i3 + 1)).toNat) (sc (w32 (i3 + 2)).toNat)) (fun r231 m230 em230 => ?_)
          refine T_icmp_eq (pc := 934) (tgt := 1399) dL_law_934 (by decide) (fun h232 => ?_) (fun h232 => ?_)
          · exact hk3  m230
          · refine J_iconst (pc := 937) dL_law_937 ?_
            exact T_retZ (pc := 938) rfl (by decide) dL_law_938
        rw [if_neg h223]
        by_cases h233 : w32 (zand (sc (w32 i3).toNat) 63) = 25
        · rw [if_pos h233]
          refine J_swIn (pc := 33) (j := 25) (tgt := 939) dL_law_33 h233 (by decide) (by decide) rfl (by decide) ?_
          refine J_aload_n (pc := 939) dL_law_939 rfl rfl rfl ?_
          refine J_aload_n (pc := 940) dL_law_940 rfl rfl rfl ?_
          refine J_iload_n (pc := 941) dL_law_941 rfl rfl ?_
          refine J_iconst (pc := 942) dL_law_942 ?_
          refine J_iadd (pc := 943) dL_law_943 ?_
          refine T_scr (pc := 944) hG dL_law_944 (fun h234 => ?_)
          refine J_aload_n (pc := 945) dL_law_945 rfl rfl rfl ?_
          refine J_iload_n (pc := 946) dL_law_946 rfl rfl ?_
          refine J_iconst (pc := 947) dL_law_947 ?_
          refine J_iadd (pc := 948) dL_law_948 ?_
          refine T_scr (pc := 949) hG dL_law_949 (fun h235 => ?_)
          refine T_callVI (pc := 950) (As := [.int (iI (sc (w32 (i3 + 1)).toNat)), .int (iI (sc (w32 (i3 + 2)).toNat))]) (k := 0) (st := []) ok_yX9_slowest lm_L_118 dL_law_950 (by decide) rfl rfl (by decide) (Nat.le_of_ble_eq_true rfl) (m_X9_slowest mu18 (sc (w32 (i3 + 1)).toNat) (sc (w32 (i3 + 2)).toNat)) (fun r237 m236 em236 => ?_)
          refine J_aload_n (pc := 953) dL_law_953 rfl rfl rfl ?_
          refine J_aload_n (pc := 954) dL_law_954 rfl rfl rfl ?_
          refine J_iload_n (pc := 955) dL_law_955 rfl rfl ?_
          refine J_iconst (pc := 956) dL_law_956 ?_
          refine J_iadd (pc := 957) dL_law_957 ?_
          refine T_scr (pc := 958) hG dL_law_958 (fun h238 => ?_)
          refine J_aload_n (pc := 959) dL_law_959 rfl rfl rfl ?_
          refine J_iload_n (pc := 960) dL_law_960 rfl rfl ?_
          refine J_iconst (pc := 961) dL_law_961 ?_
          refine J_iadd (pc := 962) dL_law_962 ?_
          refine T_scr (pc := 963) hG dL_law_963 (fun h239 => ?_)
          refine T_callVI (pc := 964) (As := [.int (iI (sc (w32 (i3 + 1)).toNat)), .int (iI (sc (w32 (i3 + 2)).toNat))]) (k := 67) (st := [.int (iI r237)]) ok_yX10_slowest lm_L_121 dL_law_964 (by decide) rfl rfl (by decide) (Nat.le_of_ble_eq_true rfl) (m_X10_slowest m236 (sc (w32 (i3 + 1)).toNat) (sc (w32 (i3 + 2)).toNat)) (fun r241 m240 em240 => ?_)
          refine T_icmp_eq (pc := 967) (tgt := 1399) dL_law_967 (by decide) (fun h242 => ?_) (fun h242 => ?_)
          · exact hk3  m240
          · refine J_iconst (pc := 970) dL_law_970 ?_
            exact T_retZ (pc := 971) rfl (by decide) dL_law_971
        rw [if_neg h233]
        by_cases h243 : w32 (zand (sc (w32 i3).toNat) 63) = 26
        · rw [if_pos h243]
          refine J_swIn (pc := 33) (j := 26) (tgt := 972) dL_law_33 h243 (by decide) (by decide) rfl (by decide) ?_
          refine J_aload_n (pc := 972) dL_law_972 rfl rfl rfl ?_
          refine J_aload_n (pc := 973) dL_law_973 rfl rfl rfl ?_
          refine J_iload_n (pc := 974) dL_law_974 rfl rfl ?_
          refine J_iconst (pc := 975) dL_law_975 ?_
          refine J_iadd (pc := 976) dL_law_976 ?_
          refine T_scr (pc := 977) hG dL_law_977 (fun h244 => ?_)
          refine T_callVI (pc := 978) (As := [.int (iI (sc (w32 (i3 + 1)).toNat))]) (k := 0) (st := []) ok_yX9_down lm_L_122 dL_law_978 (by decide) rfl rfl (by decide) (Nat.le_of_ble_eq_true rfl) (m_X9_down mu18 (sc (w32 (i3 + 1)).toNat)) (fun r246 m245 em245 => ?_)
          refine J_aload_n (pc := 981) dL_law_981 rfl rfl rfl ?_
          refine J_aload_n (pc := 982) dL_law_982 rfl rfl rfl ?_
          refine J_iload_n (pc := 983) dL_law_983 rfl rfl ?_
          refine J_iconst (pc := 984) dL_law_984 ?_
          refine J_iadd (pc := 985) dL_law_985 ?_
          refine T_scr (pc := 986) hG dL_law_986 (fun h247 => ?_)
          refine T_callVI (pc := 987) (As := [.int (iI (sc (w32 (i3 + 1)).toNat))]) (k := 67) (st := [.int (iI r246)]) ok_yX10_down lm_L_125 dL_law_987 (by decide) rfl rfl (by decide) (Nat.le_of_ble_eq_true rfl) (m_X10_down m245 (sc (w32 (i3 + 1)).toNat)) (fun r249 m248 em248 => ?_)
          refine T_icmp_eq (pc := 990) (tgt := 1399) dL_law_990 (by decide) (fun h250 => ?_) (fun h250 => ?_)
          · exact hk3  m248
          · refine J_iconst (pc := 993) dL_law_993 ?_
            exact T_retZ (pc := 994) rfl (by decide) dL_law_994
        rw [if_neg h243]
        by_cases h251 : w32 (zand (sc (w32 i3).toNat) 63) = 27
        · rw [if_pos h251]
          refine J_swIn (pc := 33) (j := 27) (tgt := 995) dL_law_33 h251 (by decide) (by decide) rfl (by decide) ?_
          refine J_aload_n (pc := 995) dL_law_995 rfl rfl rfl ?_
          refine T_callVI (pc := 996) (As := []) (k := 0) (st := []) ok_yX9_longest lm_L_126 dL_law_996 (by decide) rfl rfl (by decide) (Nat.le_of_ble_eq_true rfl) (m_X9_longest mu18) (fun r253 m252 em252 => ?_)
          refine J_aload_n (pc := 999) dL_law_999 rfl rfl rfl ?_
          refine T_callVI (pc := 1000) (As := []) (k := 67) (st := [.int (iI r253)]) ok_yX10_longest lm_L_129 dL_law_1000 (by decide) rfl rfl (by decide) (Nat.le_of_ble_eq_true rfl) (m_X10_longest m252) (fun r255 m254 em254 => ?_)
          refine T_icmp_eq (pc := 1003) (tgt := 1399) dL_law_1003 (by decide) (fun h256 => ?_) (fun h256 => ?_)
          · exact hk3  m254
          · refine J_iconst (pc := 1006) dL_law_1006 ?_
            exact T_retZ (pc := 1007) rfl (by decide) dL_law_1007
        rw [if_neg h251]
        by_cases h257 : w32 (zand (sc (w32 i3).toNat) 63) = 28
        · rw [if_pos h257]
          refine J_swIn (pc := 33) (j := 28) (tgt := 1008) dL_law_33 h257 (by decide) (by decide) rfl (by decide) ?_
          refine J_aload_n (pc := 1008) dL_law_1008 rfl rfl rfl ?_
          refine J_aload_n (pc := 1009) dL_law_1009 rfl rfl rfl ?_
          refine J_iload_n (pc := 1010) dL_law_1010 rfl rfl ?_
          refine J_iconst (pc := 1011) dL_law_1011 ?_
          refine J_iadd (pc := 1012) dL_law_1012 ?_
          refine T_scr (pc := 1013) hG dL_law_1013 (fun h258 => ?_)
          refine T_callVI (pc := 1014) (As := [.int (iI (sc (w32 (i3 + 1)).toNat))]) (k := 0) (st := []) ok_yX9_ropes lm_L_130 dL_law_1014 (by decide) rfl rfl (by decide) (Nat.le_of_ble_eq_true rfl) (m_X9_ropes mu18 (sc (w32 (i3 + 1)).toNat)) (fun r260 m259 em259 => ?_)
          refine J_aload_n (pc := 1017) dL_law_1017 rfl rfl rfl ?_
          refine J_aload_n (pc := 1018) dL_law_1018 rfl rfl rfl ?_
          refine J_iload_n (pc := 1019) dL_law_1019 rfl rfl ?_
          refine J_iconst (pc := 1020) dL_law_1020 ?_
          refine J_iadd (pc := 1021) dL_law_1021 ?_
          refine T_scr (pc := 1022) hG dL_law_1022 (fun h261 => ?_)
          refine T_callVI (pc := 1023) (As := [.int (iI (sc (w32 (i3 + 1)).toNat))]) (k := 67) (st := [.int (iI r260)]) ok_yX10_ropes lm_L_133 dL_law_1023 (by decide) rfl rfl (by decide) (Nat.le_of_ble_eq_true rfl) (m_X10_ropes m259 (sc (w32 (i3 + 1)).toNat)) (fun r263 m262 em262 => ?_)
          refine T_icmp_eq (pc := 1026) (tgt := 1399) dL_law_1026 (by decide) (fun h264 => ?_) (fun h264 => ?_)
          · exact hk3  m262
          · refine J_iconst (pc := 1029) dL_law_1029 ?_
            exact T_retZ (pc := 1030) rfl (by decide) dL_law_1030
        rw [if_neg h257]
        by_cases h265 : w32 (zand (sc (w32 i3).toNat) 63) = 29
        · rw [if_pos h265]
          refine J_swIn (pc := 33) (j := 29) (tgt := 1031) dL_law_33 h265 (by decide) (by decide) rfl (by decide) ?_
          refine J_aload_n (pc := 1031) dL_law_1031 rfl rfl rfl ?_
          refine J_aload_n (pc := 1032) dL_law_1032 rfl rfl rfl ?_
          refine J_iload_n (pc := 1033) dL_law_1033 rfl rfl ?_
          refine J_iconst (pc := 1034) dL_law_1034 ?_
          refine J_iadd (pc := 1035) dL_law_1035 ?_
          refine T_scr (pc := 1036) hG dL_law_1036 (fun h266 => ?_)
          refine J_aload_n (pc := 1037) dL_law_1037 rfl rfl rfl ?_
          refine J_iload_n (pc := 1038) dL_law_1038 rfl rfl ?_
          refine J_iconst (pc := 1039) dL_law_1039 ?_
          refine J_iadd (pc := 1040) dL_law_1040 ?_
          refine T_scr (pc := 1041) hG dL_law_1041 (fun h267 => ?_)
          refine T_callVI (pc := 1042) (As := [.int (iI (sc (w32 (i3 + 1)).toNat)), .int (iI (sc (w32 (i3 + 2)).toNat))]) (k := 0) (st := []) ok_yX9_loose lm_L_134 dL_law_1042 (by decide) rfl rfl (by decide) (Nat.le_of_ble_eq_true rfl) (m_X9_loose mu18 (sc (w32 (i3 + 1)).toNat) (sc (w32 (i3 + 2)).toNat)) (fun r269 m268 em268 => ?_)
          refine J_aload_n (pc := 1045) dL_law_1045 rfl rfl rfl ?_
          refine J_aload_n (pc := 1046) dL_law_1046 rfl rfl rfl ?_
          refine J_iload_n (pc := 1047) dL_law_1047 rfl rfl ?_
          refine J_iconst (pc := 1048) dL_law_1048 ?_
          refine J_iadd (pc := 1049) dL_law_1049 ?_
          refine T_scr (pc := 1050) hG dL_law_1050 (fun h270 => ?_)
          refine J_aload_n (pc := 1051) dL_law_1051 rfl rfl rfl ?_
          refine J_iload_n (pc := 1052) dL_law_1052 rfl rfl ?_
          refine J_iconst (pc := 1053) dL_law_1053 ?_
          refine J_iadd (pc := 1054) dL_law_1054 ?_
          refine T_scr (pc := 1055) hG dL_law_1055 (fun h271 => ?_)
          refine T_callVI (pc := 1056) (As := [.int (iI (sc (w32 (i3 + 1)).toNat)), .int (iI (sc (w32 (i3 + 2)).toNat))]) (k := 67) (st := [.int (iI r269)]) ok_yX10_loose lm_L_137 dL_law_1056 (by decide) rfl rfl (by decide) (Nat.le_of_ble_eq_true rfl) (m_X10_loose m268 (sc (w32 (i3 + 1)).toNat) (sc (w32 (i3 + 2)).toNat)) (fun r273 m272 em272 => ?_)
          refine T_icmp_eq (pc := 1059) (tgt := 1399) dL_law_1059 (by decide) (fun h274 => ?_) (fun h274 => ?_)
          · exact hk3  m272
          · refine J_iconst (pc := 1062) dL_law_1062 ?_
            exact T_retZ (pc := 1063) rfl (by decide) dL_law_1063
        rw [if_neg h265]
        by_cases h275 : w32 (zand (sc (w32 i3).toNat) 63) = 30
        · rw [if_pos h275]
          refine J_swIn (pc := 33) (j := 30) (tgt := 1064) dL_law_33 h275 (by decide) (by decide) rfl (by decide) ?_
          refine J_aload_n (pc := 1064) dL_law_1064 rfl rfl rfl ?_
          refine J_aload_n (pc := 1065) dL_law_1065 rfl rfl rfl ?_
          refine J_iload_n (pc := 1066) dL_law_1066 rfl rfl ?_
          refine J_iconst (pc := 1067) dL_law_1067 ?_
          refine J_iadd (pc := 1068) dL_law_1068 ?_
          refine T_scr (pc := 1069) hG dL_law_1069 (fun h276 => ?_)
          refine J_aload_n (pc := 1070) dL_law_1070 rfl rfl rfl ?_
          refine J_iload_n (pc := 1071) dL_law_1071 rfl rfl ?_
          refine J_iconst (pc := 1072) dL_law_1072 ?_
          refine J_iadd (pc := 1073) dL_law_1073 ?_
          refine T_scr (pc := 1074) hG dL_law_1074 (fun h277 => ?_)
          refine T_callVI (pc := 1075) (As := [.int (iI (sc (w32 (i3 + 1)).toNat)), .int (iI (sc (w32 (i3 + 2)).toNat))]) (k := 0) (st := []) ok_yX9_votes lm_L_138 dL_law_1075 (by decide) rfl rfl (by decide) (Nat.le_of_ble_eq_true rfl) (m_X9_votes mu18 (sc (w32 (i3 + 1)).toNat) (sc (w32 (i3 + 2)).toNat)) (fun r279 m278 em278 => ?_)
          refine J_aload_n (pc := 1078) dL_law_1078 rfl rfl rfl ?_
          refine J_aload_n (pc := 1079) dL_law_1079 rfl rfl rfl ?_
          refine J_iload_n (pc := 1080) dL_law_1080 rfl rfl ?_
          refine J_iconst (pc := 1081) dL_law_1081 ?_
          refine J_iadd (pc := 1082) dL_law_1082 ?_
          refine T_scr (pc := 1083) hG dL_law_1083 (fun h280 => ?_)
          refine J_aload_n (pc := 1084) dL_law_1084 rfl rfl rfl ?_
          refine J_iload_n (pc := 1085) dL_law_1085 rfl rfl ?_
          refine J_iconst (pc := 1086) dL_law_1086 ?_
          refine J_iadd (pc := 1087) dL_law_1087 ?_
          refine T_scr (pc := 1088) hG dL_law_1088 (fun h281 => ?_)
          refine T_callVI (pc := 1089) (As := [.int (iI (sc (w32 (i3 + 1)).toNat)), .int (iI (sc (w32 (i3 + 2)).toNat))]) (k := 67) (st := [.int (iI r279)]) ok_yX10_votes lm_L_141 dL_law_1089 (by decide) rfl rfl (by decide) (Nat.le_of_ble_eq_true rfl) (m_X10_votes m278 (sc (w32 (i3 + 1)).toNat) (sc (w32 (i3 + 2)).toNat)) (fun r283 m282 em282 => ?_)
          refine T_icmp_eq (pc := 1092) (tgt := 1399) dL_law_1092 (by decide) (fun h284 => ?_) (fun h284 => ?_)
          · exact hk3  m282
          · refine J_iconst (pc := 1095) dL_law_1095 ?_
            exact T_retZ (pc := 1096) rfl (by decide) dL_law_1096
        rw [if_neg h275]
        by_cases h285 : w32 (zand (sc (w32 i3).toNat) 63) = 31
        · rw [if_pos h285]
          refine J_swIn (pc := 33) (j := 31) (tgt := 1097) dL_law_33 h285 (by decide) (by decide) rfl (by decide) ?_
          refine J_aload_n (pc := 1097) dL_law_1097 rfl rfl rfl ?_
          refine T_callVI (pc := 1098) (As := []) (k := 0) (st := []) ok_yX9_choice lm_L_142 dL_law_1098 (by decide) rfl rfl (by decide) (Nat.le_of_ble_eq_true rfl) (m_X9_choice mu18) (fun r287 m286 em286 => ?_)
          refine J_aload_n (pc := 1101) dL_law_1101 rfl rfl rfl ?_
          refine T_callVI (pc := 1102) (As := []) (k := 67) (st := [.int (iI r287)]) ok_yX10_choice lm_L_145 dL_law_1102 (by decide) rfl rfl (by decide) (Nat.le_of_ble_eq_true rfl) (m_X10_choice m286) (fun r289 m288 em288 => ?_)
          refine T_icmp_eq (pc := 1105) (tgt := 1399) dL_law_1105 (by decide) (fun h290 => ?_) (fun h290 => ?_)
          · exact hk3  m288
          · refine J_iconst (pc := 1108) dL_law_1108 ?_
            exact T_retZ (pc := 1109) rfl (by decide) dL_law_1109
        rw [if_neg h285]
        by_cases h291 : w32 (zand (sc (w32 i3).toNat) 63) = 32
        · rw [if_pos h291]
          refine J_swIn (pc := 33) (j := 32) (tgt := 1110) dL_law_33 h291 (by decide) (by decide) rfl (by decide) ?_
          refine J_aload_n (pc := 1110) dL_law_1110 rfl rfl rfl ?_
          refine J_aload_n (pc := 1111) dL_law_1111 rfl rfl rfl ?_
          refine J_iload_n (pc := 1112) dL_law_1112 rfl rfl ?_
          refine J_iconst (pc := 1113) dL_law_1113 ?_
          refine J_iadd (pc := 1114) dL_law_1114 ?_
          refine T_scr (pc := 1115) hG dL_law_1115 (fun h292 => ?_)
          refine T_callVI (pc := 1116) (As := [.int (iI (sc (w32 (i3 + 1)).toNat))]) (k := 0) (st := []) ok_yX9_parts lm_L_146 dL_law_1116 (by decide) rfl rfl (by decide) (Nat.le_of_ble_eq_true rfl) (m_X9_parts mu18 (sc (w32 (i3 + 1)).toNat)) (fun r294 m293 em293 => ?_)
          refine J_aload_n (pc := 1119) dL_law_1119 rfl rfl rfl ?_
          refine J_aload_n (pc := 1120) dL_law_1120 rfl rfl rfl ?_
          refine J_iload_n (pc := 1121) dL_law_1121 rfl rfl ?_
          refine J_iconst (pc := 1122) dL_law_1122 ?_
          refine J_iadd (pc := 1123) dL_law_1123 ?_
          refine T_scr (pc := 1124) hG dL_law_1124 (fun h295 => ?_)
          refine T_callVI (pc := 1125) (As := [.int (iI (sc (w32 (i3 + 1)).toNat))]) (k := 67) (st := [.int (iI r294)]) ok_yX10_parts lm_L_149 dL_law_1125 (by decide) rfl rfl (by decide) (Nat.le_of_ble_eq_true rfl) (m_X10_parts m293 (sc (w32 (i3 + 1)).toNat)) (fun r297 m296 em296 => ?_)
          refine T_icmp_eq (pc := 1128) (tgt := 1399) dL_law_1128 (by decide) (fun h298 => ?_) (fun h298 => ?_)
          · exact hk3  m296
          · refine J_iconst (pc := 1131) dL_law_1131 ?_
            exact T_retZ (pc := 1132) rfl (by decide) dL_law_1132
        rw [if_neg h291]
        by_cases h299 : w32 (zand (sc (w32 i3).toNat) 63) = 33
        · rw [if_pos h299]
          refine J_swIn (pc := 33) (j := 33) (tgt := 1133) dL_law_33 h299 (by decide) (by decide) rfl (by decide) ?_
          refine J_aload_n (pc := 1133) dL_law_1133 rfl rfl rfl ?_
          refine J_aload_n (pc := 1134) dL_law_1134 rfl rfl rfl ?_
          refine J_iload_n (pc := 1135) dL_law_1135 rfl rfl ?_
          refine J_iconst (pc := 1136) dL_law_1136 ?_
          refine J_iadd (pc := 1137) dL_law_1137 ?_
          refine T_scr (pc := 1138) hG dL_law_1138 (fun h300 => ?_)
          refine J_aload_n (pc := 1139) dL_law_1139 rfl rfl rfl ?_
          refine J_iload_n (pc := 1140) dL_law_1140 rfl rfl ?_
          refine J_iconst (pc := 1141) dL_law_1141 ?_
          refine J_iadd (pc := 1142) dL_law_1142 ?_
          refine T_scr (pc := 1143) hG dL_law_1143 (fun h301 => ?_)
          refine J_aload_n (pc := 1144) dL_law_1144 rfl rfl rfl ?_
          refine J_iload_n (pc := 1145) dL_law_1145 rfl rfl ?_
          refine J_iconst (pc := 1146) dL_law_1146 ?_
          refine J_iadd (pc := 1147) dL_law_1147 ?_
          refine T_scr (pc := 1148) hG dL_law_1148 (fun h302 => ?_)
          refine T_callVI (pc := 1149) (As := [.int (iI (sc (w32 (i3 + 1)).toNat)), .int (iI (sc (w32 (i3 + 2)).toNat)), .int (iI (sc (w32 (i3 + 3)).toNat))]) (k := 0) (st := []) ok_yX9_fits lm_L_150 dL_law_1149 (by decide) rfl rfl (by decide) (Nat.le_of_ble_eq_true rfl) (m_X9_fits mu18 (sc (w32 (i3 + 1)).toNat) (sc (w32 (i3 + 2)).toNat) (sc (w32 (i3 + 3)).toNat)) (fun r304 m303 em303 => ?_)
          refine J_aload_n (pc := 1152) dL_law_1152 rfl rfl rfl ?_
          refine J_aload_n (pc := 1153) dL_law_1153 rfl rfl rfl ?_
          refine J_iload_n (pc := 1154) dL_law_1154 rfl rfl ?_
          refine J_iconst (pc := 1155) dL_law_1155 ?_
          refine J_iadd (pc := 1156) dL_law_1156 ?_
          refine T_scr (pc := 1157) hG dL_law_1157 (fun h305 => ?_)
          refine J_aload_n (pc := 1158) dL_law_1158 rfl rfl rfl ?_
          refine J_iload_n (pc := 1159) dL_law_1159 rfl rfl ?_
          refine J_iconst (pc := 1160) dL_law_1160 ?_
          refine J_iadd (pc := 1161) dL_law_1161 ?_
          refine T_scr (pc := 1162) hG dL_law_1162 (fun h306 => ?_)
          refine J_aload_n (pc := 1163) dL_law_1163 rfl rfl rfl ?_
          refine J_iload_n (pc := 1164) dL_law_1164 rfl rfl ?_
          refine J_iconst (pc := 1165) dL_law_1165 ?_
          refine J_iadd (pc := 1166) dL_law_1166 ?_
          refine T_scr (pc := 1167) hG dL_law_1167 (fun h307 => ?_)
          refine T_callVI (pc := 1168) (As := [.int (iI (sc (w32 (i3 + 1)).toNat)), .int (iI (sc (w32 (i3 + 2)).toNat)), .int (iI (sc (w32 (i3 + 3)).toNat))]) (k := 67) (st := [.int (iI r304)]) ok_yX10_fits lm_L_153 dL_law_1168 (by decide) rfl rfl (by decide) (Nat.le_of_ble_eq_true rfl) (m_X10_fits m303 (sc (w32 (i3 + 1)).toNat) (sc (w32 (i3 + 2)).toNat) (sc (w32 (i3 + 3)).toNat)) (fun r309 m308 em308 => ?_)
          refine T_icmp_eq (pc := 1171) (tgt := 1399) dL_law_1171 (by decide) (fun h310 => ?_) (fun h310 => ?_)
          · exact hk3  m308
          · refine J_iconst (pc := 1174) dL_law_1174 ?_
            exact T_retZ (pc := 1175) rfl (by decide) dL_law_1175
        rw [if_neg h299]
        by_cases h311 : w32 (zand (sc (w32 i3).toNat) 63) = 34
        · rw [if_pos h311]
          refine J_swIn (pc := 33) (j := 34) (tgt := 1176) dL_law_33 h311 (by decide) (by decide) rfl (by decide) ?_
          refine J_aload_n (pc := 1176) dL_law_1176 rfl rfl rfl ?_
          refine J_aload_n (pc := 1177) dL_law_1177 rfl rfl rfl ?_
          refine J_iload_n (pc := 1178) dL_law_1178 rfl rfl ?_
          refine J_iconst (pc := 1179) dL_law_1179 ?_
          refine J_iadd (pc := 1180) dL_law_1180 ?_
          refine T_scr (pc := 1181) hG dL_law_1181 (fun h312 => ?_)
          refine J_aload_n (pc := 1182) dL_law_1182 rfl rfl rfl ?_
          refine J_iload_n (pc := 1183) dL_law_1183 rfl rfl ?_
          refine J_iconst (pc := 1184) dL_law_1184 ?_
          refine J_iadd (pc := 1185) dL_law_1185 ?_
          refine T_scr (pc := 1186) hG dL_law_1186 (fun h313 => ?_)
          refine T_callVI (pc := 1187) (As := [.int (iI (sc (w32 (i3 + 1)).toNat)), .int (iI (sc (w32 (i3 + 2)).toNat))]) (k := 0) (st := []) ok_yX9_slipped lm_L_154 dL_law_1187 (by decide) rfl rfl (by decide) (Nat.le_of_ble_eq_true rfl) (m_X9_slipped mu18 (sc (w32 (i3 + 1)).toNat) (sc (w32 (i3 + 2)).toNat)) (fun r315 m314 em314 => ?_)
          refine J_aload_n (pc := 1190) dL_law_1190 rfl rfl rfl ?_
          refine J_aload_n (pc := 1191) dL_law_1191 rfl rfl rfl ?_
          refine J_iload_n (pc := 1192) dL_law_1192 rfl rfl ?_
          refine J_iconst (pc := 1193) dL_law_1193 ?_
          refine J_iadd (pc := 1194) dL_law_1194 ?_
          refine T_scr (pc := 1195) hG dL_law_1195 (fun h316 => ?_)
          refine J_aload_n (pc := 1196) dL_law_1196 rfl rfl rfl ?_
          refine J_iload_n (pc := 1197) dL_law_1197 rfl rfl ?_
          refine J_iconst (pc := 1198) dL_law_1198 ?_
          refine J_iadd (pc := 1199) dL_law_1199 ?_
          refine T_scr (pc := 1200) hG dL_law_1200 (fun h317 => ?_)
          refine T_callVI (pc := 1201) (As := [.int (iI (sc (w32 (i3 + 1)).toNat)), .int (iI (sc (w32 (i3 + 2)).toNat))]) (k := 67) (st := [.int (iI r315)]) ok_yX10_slipped lm_L_157 dL_law_1201 (by decide) rfl rfl (by decide) (Nat.le_of_ble_eq_true rfl) (m_X10_slipped m314 (sc (w32 (i3 + 1)).toNat) (sc (w32 (i3 + 2)).toNat)) (fun r319 m318 em318 => ?_)
          refine T_icmp_eq (pc := 1204) (tgt := 1399) dL_law_1204 (by decide) (fun h320 => ?_) (fun h320 => ?_)
          · exact hk3  m318
          · refine J_iconst (pc := 1207) dL_law_1207 ?_
            exact T_retZ (pc := 1208) rfl (by decide) dL_law_1208
        rw [if_neg h311]
        by_cases h321 : w32 (zand (sc (w32 i3).toNat) 63) = 35
        · rw [if_pos h321]
          refine J_swIn (pc := 33) (j := 35) (tgt := 1209) dL_law_33 h321 (by decide) (by decide) rfl (by decide) ?_
          refine J_aload_n (pc := 1209) dL_law_1209 rfl rfl rfl ?_
          refine J_aload_n (pc := 1210) dL_law_1210 rfl rfl rfl ?_
          refine J_iload_n (pc := 1211) dL_law_1211 rfl rfl ?_
          refine J_iconst (pc := 1212) dL_law_1212 ?_
          refine J_iadd (pc := 1213) dL_law_1213 ?_
          refine T_scr (pc := 1214) hG dL_law_1214 (fun h322 => ?_)
          refine J_aload_n (pc := 1215) dL_law_1215 rfl rfl rfl ?_
          refine J_iload_n (pc := 1216) dL_law_1216 rfl rfl ?_
          refine J_iconst (pc := 1217) dL_law_1217 ?_
          refine J_iadd (pc := 1218) dL_law_1218 ?_
          refine T_scr (pc := 1219) hG dL_law_1219 (fun h323 => ?_)
          refine J_aload_n (pc := 1220) dL_law_1220 rfl rfl rfl ?_
          refine J_iload_n (pc := 1221) dL_law_1221 rfl rfl ?_
          refine J_iconst (pc := 1222) dL_law_1222 ?_
          refine J_iadd (pc := 1223) dL_law_1223 ?_
          refine T_scr (pc := 1224) hG dL_law_1224 (fun h324 => ?_)
          refine T_callVI (pc := 1225) (As := [.int (iI (sc (w32 (i3 + 1)).toNat)), .int (iI (sc (w32 (i3 + 2)).toNat)), .int (iI (sc (w32 (i3 + 3)).toNat))]) (k := 0) (st := []) ok_yX9_odds lm_L_158 dL_law_1225 (by decide) rfl rfl (by decide) (Nat.le_of_ble_eq_true rfl) (m_X9_odds mu18 (sc (w32 (i3 + 1)).toNat) (sc (w32 (i3 + 2)).toNat) (sc (w32 (i3 + 3)).toNat)) (fun r326 m325 em325 => ?_)
          refine J_aload_n (pc := 1228) dL_law_1228 rfl rfl rfl ?_
          refine J_aload_n (pc := 1229) dL_law_1229 rfl rfl rfl ?_
          refine J_iload_n (pc := 1230) dL_law_1230 rfl rfl ?_
          refine J_iconst (pc := 1231) dL_law_1231 ?_
          refine J_iadd (pc := 1232) dL_law_1232 ?_
          refine T_scr (pc := 1233) hG dL_law_1233 (fun h327 => ?_)
          refine J_aload_n (pc := 1234) dL_law_1234 rfl rfl rfl ?_
          refine J_iload_n (pc := 1235) dL_law_1235 rfl rfl ?_
          refine J_iconst (pc := 1236) dL_law_1236 ?_
          refine J_iadd (pc := 1237) dL_law_1237 ?_
          refine T_scr (pc := 1238) hG dL_law_1238 (fun h328 => ?_)
          refine J_aload_n (pc := 1239) dL_law_1239 rfl rfl rfl ?_
          refine J_iload_n (pc := 1240) dL_law_1240 rfl rfl ?_
          refine J_iconst (pc := 1241) dL_law_1241 ?_
          refine J_iadd (pc := 1242) dL_law_1242 ?_
          refine T_scr (pc := 1243) hG dL_law_1243 (fun h329 => ?_)
          refine T_callVI (pc := 1244) (As := [.int (iI (sc (w32 (i3 + 1)).toNat)), .int (iI (sc (w32 (i3 + 2)).toNat)), .int (iI (sc (w32 (i3 + 3)).toNat))]) (k := 67) (st := [.int (iI r326)]) ok_yX10_odds lm_L_161 dL_law_1244 (by decide) rfl rfl (by decide) (Nat.le_of_ble_eq_true rfl) (m_X10_odds m325 (sc (w32 (i3 + 1)).toNat) (sc (w32 (i3 + 2)).toNat) (sc (w32 (i3 + 3)).toNat)) (fun r331 m330 em330 => ?_)
          refine T_icmp_eq (pc := 1247) (tgt := 1399) dL_law_1247 (by decide) (fun h332 => ?_) (fun h332 => ?_)
          · exact hk3  m330
          · refine J_iconst (pc := 1250) dL_law_1250 ?_
            exact T_retZ (pc := 1251) rfl (by decide) dL_law_1251
        rw [if_neg h321]
        by_cases h333 : w32 (zand (sc (w32 i3).toNat) 63) = 36
        · rw [if_pos h333]
          refine J_swIn (pc := 33) (j := 36) (tgt := 1252) dL_law_33 h333 (by decide) (by decide) rfl (by decide) ?_
          refine J_aload_n (pc := 1252) dL_law_1252 rfl rfl rfl ?_
          refine J_aload_n (pc := 1253) dL_law_1253 rfl rfl rfl ?_
          refine J_iload_n (pc := 1254) dL_law_1254 rfl rfl ?_
          refine J_iconst (pc := 1255) dL_law_1255 ?_
          refine J_iadd (pc := 1256) dL_law_1256 ?_
          refine T_scr (pc := 1257) hG dL_law_1257 (fun h334 => ?_)
          refine J_aload_n (pc := 1258) dL_law_1258 rfl rfl rfl ?_
          refine J_iload_n (pc := 1259) dL_law_1259 rfl rfl ?_
          refine J_iconst (pc := 1260) dL_law_1260 ?_
          refine J_iadd (pc := 1261) dL_law_1261 ?_
          refine T_scr (pc := 1262) hG dL_law_1262 (fun h335 => ?_)
          refine T_callVI (pc := 1263) (As := [.int (iI (sc (w32 (i3 + 1)).toNat)), .int (iI (sc (w32 (i3 + 2)).toNat))]) (k := 0) (st := []) ok_yX9_lots lm_L_162 dL_law_1263 (by decide) rfl rfl (by decide) (Nat.le_of_ble_eq_true rfl) (m_X9_lots mu18 (sc (w32 (i3 + 1)).toNat) (sc (w32 (i3 + 2)).toNat)) (fun r337 m336 em336 => ?_)
          refine J_aload_n (pc := 1266) dL_law_1266 rfl rfl rfl ?_
          refine J_aload_n (pc := 1267) dL_law_1267 rfl rfl rfl ?_
          refine J_iload_n (pc := 1268) dL_law_1268 rfl rfl ?_
          refine J_iconst (pc := 1269) dL_law_1269 ?_
          refine J_iadd (pc := 1270) dL_law_1270 ?_
          refine T_scr (pc := 1271) hG dL_law_1271 (fun h338 => ?_)
          refine J_aload_n (pc := 1272) dL_law_1272 rfl rfl rfl ?_
          refine J_iload_n (pc := 1273) dL_law_1273 rfl rfl ?_
          refine J_iconst (pc := 1274) dL_law_1274 ?_
          refine J_iadd (pc := 1275) dL_law_1275 ?_
          refine T_scr (pc := 1276) hG dL_law_1276 (fun h339 => ?_)
          refine T_callVI (pc := 1277) (As := [.int (iI (sc (w32 (i3 + 1)).toNat)), .int (iI (sc (w32 (i3 + 2)).toNat))]) (k := 67) (st := [.int (iI r337)]) ok_yX10_lots lm_L_165 dL_law_1277 (by decide) rfl rfl (by decide) (Nat.le_of_ble_eq_true rfl) (m_X10_lots m336 (sc (w32 (i3 + 1)).toNat) (sc (w32 (i3 + 2)).toNat)) (fun r341 m340 em340 => ?_)
          refine T_icmp_eq (pc := 1280) (tgt := 1399) dL_law_1280 (by decide) (fun h342 => ?_) (fun h342 => ?_)
          · exact hk3  m340
          · refine J_iconst (pc := 1283) dL_law_1283 ?_
            exact T_retZ (pc := 1284) rfl (by decide) dL_law_1284
        rw [if_neg h333]
        by_cases h343 : w32 (zand (sc (w32 i3).toNat) 63) = 37
        · rw [if_pos h343]
          refine J_swIn (pc := 33) (j := 37) (tgt := 1285) dL_law_33 h343 (by decide) (by decide) rfl (by decide) ?_
          refine J_aload_n (pc := 1285) dL_law_1285 rfl rfl rfl ?_
          refine T_callVI (pc := 1286) (As := []) (k := 0) (st := []) ok_yX9_asked lm_L_166 dL_law_1286 (by decide) rfl rfl (by decide) (Nat.le_of_ble_eq_true rfl) (m_X9_asked mu18) (fun r345 m344 em344 => ?_)
          refine J_aload_n (pc := 1289) dL_law_1289 rfl rfl rfl ?_
          refine T_callVI (pc := 1290) (As := []) (k := 67) (st := [.int (iI r345)]) ok_yX10_asked lm_L_169 dL_law_1290 (by decide) rfl rfl (by decide) (Nat.le_of_ble_eq_true rfl) (m_X10_asked m344) (fun r347 m346 em346 => ?_)
          refine T_icmp_eq (pc := 1293) (tgt := 1399) dL_law_1293 (by decide) (fun h348 => ?_) (fun h348 => ?_)
          · exact hk3  m346
          · refine J_iconst (pc := 1296) dL_law_1296 ?_
            exact T_retZ (pc := 1297) rfl (by decide) dL_law_1297
        rw [if_neg h343]
        by_cases h349 : w32 (zand (sc (w32 i3).toNat) 63) = 38
        · rw [if_pos h349]
          refine J_swIn (pc := 33) (j := 38) (tgt := 1298) dL_law_33 h349 (by decide) (by decide) rfl (by decide) ?_
          refine J_aload_n (pc := 1298) dL_law_1298 rfl rfl rfl ?_
          refine T_callVL (pc := 1299) (As := []) (k := 0) (st := []) ok_yX9_upper lm_L_170 dL_law_1299 (by decide) rfl rfl (by decide) (Nat.le_of_ble_eq_true rfl) (m_X9_upper mu18) (fun r351 m350 em350 => ?_)
          refine J_aload_n (pc := 1302) dL_law_1302 rfl rfl rfl ?_
          refine T_callVL (pc := 1303) (As := []) (k := 67) (st := [.long (iL r351)]) ok_yX10_upper lm_L_174 dL_law_1303 (by decide) rfl rfl (by decide) (Nat.le_of_ble_eq_true rfl) (m_X10_upper m350) (fun r353 m352 em352 => ?_)
          refine J_lcmp (pc := 1306) dL_law_1306 ?_
          refine T_if_eq (pc := 1307) (tgt := 1399) dL_law_1307 (by decide) (fun h354 => ?_) (fun h354 => ?_)
          · exact hk3  m352
          · refine J_iconst (pc := 1310) dL_law_1310 ?_
            exact T_retZ (pc := 1311) rfl (by decide) dL_law_1311
        rw [if_neg h349]
        by_cases h355 : w32 (zand (sc (w32 i3).toNat) 63) = 39
        · rw [if_pos h355]
          refine J_swIn (pc := 33) (j := 39) (tgt := 1312) dL_law_33 h355 (by decide) (by decide) rfl (by decide) ?_
          refine J_aload_n (pc := 1312) dL_law_1312 rfl rfl rfl ?_
          refine T_callVL (pc := 1313) (As := []) (k := 0) (st := []) ok_yX9_lower lm_L_175 dL_law_1313 (by decide) rfl rfl (by decide) (Nat.le_of_ble_eq_true rfl) (m_X9_lower mu18) (fun r357 m356 em356 => ?_)
          refine J_aload_n (pc := 1316) dL_law_1316 rfl rfl rfl ?_
          refine T_callVL (pc := 1317) (As := []) (k := 67) (st := [.long (iL r357)]) ok_yX10_lower lm_L_178 dL_law_1317 (by decide) rfl rfl (by decide) (Nat.le_of_ble_eq_true rfl) (m_X10_lower m356) (fun r359 m358 em358 => ?_)
          refine J_lcmp (pc := 1320) dL_law_1320 ?_
          refine T_if_eq (pc := 1321) (tgt := 1399) dL_law_1321 (by decide) (fun h360 => ?_) (fun h360 => ?_)
          · exact hk3  m358
          · refine J_iconst (pc := 1324) dL_law_1324 ?_
            exact T_retZ (pc := 1325) rfl (by decide) dL_law_1325
        rw [if_neg h355]
        by_cases h361 : w32 (zand (sc (w32 i3).toNat) 63) = 40
        · rw [if_pos h361]
          refine J_swIn (pc := 33) (j := 40) (tgt := 1326) dL_law_33 h361 (by decide) (by decide) rfl (by decide) ?_
          refine J_aload_n (pc := 1326) dL_law_1326 rfl rfl rfl ?_
          refine J_aload_n (pc := 1327) dL_law_1327 rfl rfl rfl ?_
          refine J_iload_n (pc := 1328) dL_law_1328 rfl rfl ?_
          refine J_iconst (pc := 1329) dL_law_1329 ?_
          refine J_iadd (pc := 1330) dL_law_1330 ?_
          refine T_scr (pc := 1331) hG dL_law_1331 (fun h362 => ?_)
          refine T_callVI (pc := 1332) (As := [.int (iI (sc (w32 (i3 + 1)).toNat))]) (k := 0) (st := []) ok_yX9_count lm_L_179 dL_law_1332 (by decide) rfl rfl (by decide) (Nat.le_of_ble_eq_true rfl) (m_X9_count mu18 (sc (w32 (i3 + 1)).toNat)) (fun r364 m363 em363 => ?_)
          refine J_aload_n (pc := 1335) dL_law_1335 rfl rfl rfl ?_
          refine J_aload_n (pc := 1336) dL_law_1336 rfl rfl rfl ?_
          refine J_iload_n (pc := 1337) dL_law_1337 rfl rfl ?_
          refine J_iconst (pc := 1338) dL_law_1338 ?_
          refine J_iadd (pc := 1339) dL_law_1339 ?_
          refine T_scr (pc := 1340) hG dL_law_1340 (fun h365 => ?_)
          refine T_callVI (pc := 1341) (As := [.int (iI (sc (w32 (i3 + 1)).toNat))]) (k := 67) (st := [.int (iI r364)]) ok_yX10_count lm_L_182 dL_law_1341 (by decide) rfl rfl (by decide) (Nat.le_of_ble_eq_true rfl) (m_X10_count m363 (sc (w32 (i3 + 1)).toNat)) (fun r367 m366 em366 => ?_)
          refine T_icmp_eq (pc := 1344) (tgt := 1399) dL_law_1344 (by decide) (fun h368 => ?_) (fun h368 => ?_)
          · exact hk3  m366
          · refine J_iconst (pc := 1347) dL_law_1347 ?_
            exact T_retZ (pc := 1348) rfl (by decide) dL_law_1348
        rw [if_neg h361]
        by_cases h369 : w32 (zand (sc (w32 i3).toNat) 63) = 41
        · rw [if_pos h369]
          refine J_swIn (pc := 33) (j := 41) (tgt := 1349) dL_law_33 h369 (by decide) (by decide) rfl (by decide) ?_
          refine J_aload_n (pc := 1349) dL_law_1349 rfl rfl rfl ?_
          refine T_callVI (pc := 1350) (As := []) (k := 0) (st := []) ok_yX9_finding lm_L_183 dL_law_1350 (by decide) rfl rfl (by decide) (Nat.le_of_ble_eq_true rfl) (m_X9_finding mu18) (fun r371 m370 em370 => ?_)
          refine J_aload_n (pc := 1353) dL_law_1353 rfl rfl rfl ?_
          refine T_callVI (pc := 1354) (As := []) (k := 67) (st := [.int (iI r371)]) ok_yX10_finding lm_L_186 dL_law_1354 (by decide) rfl rfl (by decide) (Nat.le_of_ble_eq_true rfl) (m_X10_finding m370) (fun r373 m372 em372 => ?_)
          refine T_icmp_eq (pc := 1357) (tgt := 1399) dL_law_1357 (by decide) (fun h374 => ?_) (fun h374 => ?_)
          · exact hk3  m372
          · refine J_iconst (pc := 1360) dL_law_1360 ?_
            exact T_retZ (pc := 1361) rfl (by decide) dL_law_1361
        rw [if_neg h369]
        by_cases h375 : w32 (zand (sc (w32 i3).toNat) 63) = 42
        · rw [if_pos h375]
          refine J_swIn (pc := 33) (j := 42) (tgt := 1362) dL_law_33 h375 (by decide) (by decide) rfl (by decide) ?_
          refine J_aload_n (pc := 1362) dL_law_1362 rfl rfl rfl ?_
          refine J_aload_n (pc := 1363) dL_law_1363 rfl rfl rfl ?_
          refine J_iload_n (pc := 1364) dL_law_1364 rfl rfl ?_
          refine J_iconst (pc := 1365) dL_law_1365 ?_
          refine J_iadd (pc := 1366) dL_law_1366 ?_
          refine T_scr (pc := 1367) hG dL_law_1367 (fun h376 => ?_)
          refine T_callVI (pc := 1368) (As := [.int (iI (sc (w32 (i3 + 1)).toNat))]) (k := 0) (st := []) ok_yX9_findings lm_L_187 dL_law_1368 (by decide) rfl rfl (by decide) (Nat.le_of_ble_eq_true rfl) (m_X9_findings mu18 (sc (w32 (i3 + 1)).toNat)) (fun r378 m377 em377 => ?_)
          refine J_aload_n (pc := 1371) dL_law_1371 rfl rfl rfl ?_
          refine J_aload_n (pc := 1372) dL_law_1372 rfl rfl rfl ?_
          refine J_iload_n (pc := 1373) dL_law_1373 rfl rfl ?_
          refine J_iconst (pc := 1374) dL_law_1374 ?_
          refine J_iadd (pc := 1375) dL_law_1375 ?_
          refine T_scr (pc := 1376) hG dL_law_1376 (fun h379 => ?_)
          refine T_callVI (pc := 1377) (As := [.int (iI (sc (w32 (i3 + 1)).toNat))]) (k := 67) (st := [.int (iI r378)]) ok_yX10_findings lm_L_190 dL_law_1377 (by decide) rfl rfl (by decide) (Nat.le_of_ble_eq_true rfl) (m_X10_findings m377 (sc (w32 (i3 + 1)).toNat)) (fun r381 m380 em380 => ?_)
          refine T_icmp_eq (pc := 1380) (tgt := 1399) dL_law_1380 (by decide) (fun h382 => ?_) (fun h382 => ?_)
          · exact hk3  m380
          · refine J_iconst (pc := 1383) dL_law_1383 ?_
            exact T_retZ (pc := 1384) rfl (by decide) dL_law_1384
        rw [if_neg h375]
        by_cases h383 : w32 (zand (sc (w32 i3).toNat) 63) = 43
        · rw [if_pos h383]
          refine J_swIn (pc := 33) (j := 43) (tgt := 1385) dL_law_33 h383 (by decide) (by decide) rfl (by decide) ?_
          refine J_aload_n (pc := 1385) dL_law_1385 rfl rfl rfl ?_
          refine T_callVL (pc := 1386) (As := []) (k := 0) (st := []) ok_yX9_digest lm_L_191 dL_law_1386 (by decide) rfl rfl (by decide) (Nat.le_of_ble_eq_true rfl) (m_X9_digest mu18) (fun r385 m384 em384 => ?_)
          refine J_aload_n (pc := 1389) dL_law_1389 rfl rfl rfl ?_
          refine T_callVL (pc := 1390) (As := []) (k := 67) (st := [.long (iL r385)]) ok_yX10_digest lm_L_194 dL_law_1390 (by decide) rfl rfl (by decide) (Nat.le_of_ble_eq_true rfl) (m_X10_digest m384) (fun r387 m386 em386 => ?_)
          refine J_lcmp (pc := 1393) dL_law_1393 ?_
          refine T_if_eq (pc := 1394) (tgt := 1399) dL_law_1394 (by decide) (fun h388 => ?_) (fun h388 => ?_)
          · exact hk3  m386
          · refine J_iconst (pc := 1397) dL_law_1397 ?_
            exact T_retZ (pc := 1398) rfl (by decide) dL_law_1398
        rw [if_neg h383]
        refine J_swOut (pc := 33) (tgt := 1399) dL_law_33 (by omega) (by decide) ?_
        exact hk3  mu18
