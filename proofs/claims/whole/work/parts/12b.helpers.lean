/-! the law's helpers -/
theorem qL_131 : Cond.methodLink RL 131 yL_cave ∈ W0 := (mt3 (List.mem_of_getElem? (i := 74) rfl) rfl)
theorem qL_145 : Cond.methodLink RL 145 yL_count ∈ W0 := (mt4 (List.mem_of_getElem? (i := 97) rfl) rfl)
theorem qL_148 : Cond.methodLink RL 148 yL_cup ∈ W0 := (mt4 (List.mem_of_getElem? (i := 147) rfl) rfl)
theorem qL_156 : Cond.methodLink RL 156 yL_lead ∈ W0 := (mt4 (List.mem_of_getElem? (i := 169) rfl) rfl)
theorem qL_159 : Cond.methodLink RL 159 yL_plug ∈ W0 := (mt4 (List.mem_of_getElem? (i := 184) rfl) rfl)
theorem qL_163 : Cond.methodLink RL 163 yL_pour ∈ W0 := (mt4 (List.mem_of_getElem? (i := 195) rfl) rfl)
theorem qL_166 : Cond.methodLink RL 166 yL_crack ∈ W0 := (mt4 (List.mem_of_getElem? (i := 206) rfl) rfl)
theorem qL_173 : Cond.methodLink RL 173 yL_then ∈ W0 := (mt4 (List.mem_of_getElem? (i := 217) rfl) rfl)
theorem qL_177 : Cond.methodLink RL 177 yL_tipping ∈ W0 := (mt4 (List.mem_of_getElem? (i := 224) rfl) rfl)
theorem qL_180 : Cond.methodLink RL 180 yL_next ∈ W0 := (mt4 (List.mem_of_getElem? (i := 231) rfl) rfl)
theorem qL_183 : Cond.methodLink RL 183 yL_together ∈ W0 := (mt5 (List.mem_of_getElem? (i := 2) rfl) rfl)
theorem qL_186 : Cond.methodLink RL 186 yL_sound ∈ W0 := (mt5 (List.mem_of_getElem? (i := 14) rfl) rfl)
theorem qL_189 : Cond.methodLink RL 189 yL_fallen ∈ W0 := (mt5 (List.mem_of_getElem? (i := 36) rfl) rfl)
theorem qL_192 : Cond.methodLink RL 192 yL_nth ∈ W0 := (mt5 (List.mem_of_getElem? (i := 56) rfl) rfl)
theorem qL_195 : Cond.methodLink RL 195 yL_meeting ∈ W0 := (mt5 (List.mem_of_getElem? (i := 65) rfl) rfl)
theorem qL_198 : Cond.methodLink RL 198 yL_flow ∈ W0 := (mt5 (List.mem_of_getElem? (i := 82) rfl) rfl)
theorem qL_201 : Cond.methodLink RL 201 yL_tier ∈ W0 := (mt5 (List.mem_of_getElem? (i := 89) rfl) rfl)
theorem qL_204 : Cond.methodLink RL 204 yL_toCrack ∈ W0 := (mt5 (List.mem_of_getElem? (i := 104) rfl) rfl)
theorem qL_208 : Cond.methodLink RL 208 yL_office ∈ W0 := (mt5 (List.mem_of_getElem? (i := 115) rfl) rfl)
theorem qL_211 : Cond.methodLink RL 211 yL_hear ∈ W0 := (mt5 (List.mem_of_getElem? (i := 126) rfl) rfl)
theorem qL_219 : Cond.methodLink RL 219 yL_led ∈ W0 := (mt5 (List.mem_of_getElem? (i := 137) rfl) rfl)
theorem qL_222 : Cond.methodLink RL 222 yL_listen ∈ W0 := (mt5 (List.mem_of_getElem? (i := 176) rfl) rfl)
theorem qL_225 : Cond.methodLink RL 225 yL_cold ∈ W0 := (mt5 (List.mem_of_getElem? (i := 193) rfl) rfl)
theorem qL_228 : Cond.methodLink RL 228 yL_game ∈ W0 := (mt5 (List.mem_of_getElem? (i := 201) rfl) rfl)
theorem qL_231 : Cond.methodLink RL 231 yL_years ∈ W0 := (mt5 (List.mem_of_getElem? (i := 213) rfl) rfl)
theorem qL_234 : Cond.methodLink RL 234 yL_later ∈ W0 := (mt5 (List.mem_of_getElem? (i := 237) rfl) rfl)
theorem qL_237 : Cond.methodLink RL 237 yL_oftenest ∈ W0 := (mt6 (List.mem_of_getElem? (i := 12) rfl) rfl)
theorem qL_244 : Cond.methodLink RL 244 yL_pause ∈ W0 := (mt6 (List.mem_of_getElem? (i := 19) rfl) rfl)
theorem qL_247 : Cond.methodLink RL 247 yL_giver ∈ W0 := (mt6 (List.mem_of_getElem? (i := 26) rfl) rfl)
theorem qL_250 : Cond.methodLink RL 250 yL_toPour ∈ W0 := (mt6 (List.mem_of_getElem? (i := 39) rfl) rfl)
theorem qL_253 : Cond.methodLink RL 253 yL_ways ∈ W0 := (mt6 (List.mem_of_getElem? (i := 46) rfl) rfl)
theorem qL_256 : Cond.methodLink RL 256 yL_chorus ∈ W0 := (mt6 (List.mem_of_getElem? (i := 57) rfl) rfl)
theorem qL_259 : Cond.methodLink RL 259 yL_never ∈ W0 := (mt6 (List.mem_of_getElem? (i := 64) rfl) rfl)
theorem qL_262 : Cond.methodLink RL 262 yL_swell ∈ W0 := (mt6 (List.mem_of_getElem? (i := 71) rfl) rfl)
abbrev mL_cave : MT := (yL_cave, cL_cave, 4, (some .int))
theorem wL_cave : Cond.codeWith yL_cave cL_cave 4 (some .int) [(0, 9, 12, 13)] ∈ W0 := (mt3 (List.mem_of_getElem? (i := 76) rfl) rfl)
theorem sL_cave : Cond.static yL_cave ∈ W0 := (mt3 (List.mem_of_getElem? (i := 75) rfl) rfl)
abbrev mL_count : MT := (yL_count, cL_count, 4, (some .int))
theorem wL_count : Cond.codeWith yL_count cL_count 4 (some .int) [(0, 9, 12, 18)] ∈ W0 := (mt4 (List.mem_of_getElem? (i := 99) rfl) rfl)
theorem sL_count : Cond.static yL_count ∈ W0 := (mt4 (List.mem_of_getElem? (i := 98) rfl) rfl)
abbrev mL_cup : MT := (yL_cup, cL_cup, 5, (some .int))
theorem wL_cup : Cond.codeWith yL_cup cL_cup 5 (some .int) [(0, 10, 13, 18)] ∈ W0 := (mt4 (List.mem_of_getElem? (i := 149) rfl) rfl)
theorem sL_cup : Cond.static yL_cup ∈ W0 := (mt4 (List.mem_of_getElem? (i := 148) rfl) rfl)
abbrev mL_lead : MT := (yL_lead, cL_lead, 5, (some .int))
theorem wL_lead : Cond.codeWith yL_lead cL_lead 5 (some .int) [(0, 17, 20, 18)] ∈ W0 := (mt4 (List.mem_of_getElem? (i := 171) rfl) rfl)
theorem sL_lead : Cond.static yL_lead ∈ W0 := (mt4 (List.mem_of_getElem? (i := 170) rfl) rfl)
abbrev mL_plug : MT := (yL_plug, cL_plug, 5, (some .int))
theorem wL_plug : Cond.codeWith yL_plug cL_plug 5 (some .int) [(0, 17, 20, 18)] ∈ W0 := (mt4 (List.mem_of_getElem? (i := 186) rfl) rfl)
theorem sL_plug : Cond.static yL_plug ∈ W0 := (mt4 (List.mem_of_getElem? (i := 185) rfl) rfl)
abbrev mL_pour : MT := (yL_pour, cL_pour, 5, (some .int))
theorem wL_pour : Cond.codeWith yL_pour cL_pour 5 (some .int) [(0, 10, 13, 18)] ∈ W0 := (mt4 (List.mem_of_getElem? (i := 197) rfl) rfl)
theorem sL_pour : Cond.static yL_pour ∈ W0 := (mt4 (List.mem_of_getElem? (i := 196) rfl) rfl)
abbrev mL_crack : MT := (yL_crack, cL_crack, 5, (some .int))
theorem wL_crack : Cond.codeWith yL_crack cL_crack 5 (some .int) [(0, 10, 13, 18)] ∈ W0 := (mt4 (List.mem_of_getElem? (i := 208) rfl) rfl)
theorem sL_crack : Cond.static yL_crack ∈ W0 := (mt4 (List.mem_of_getElem? (i := 207) rfl) rfl)
abbrev mL_then : MT := (yL_then, cL_then, 6, (some .int))
theorem wL_then : Cond.codeWith yL_then cL_then 6 (some .int) [(0, 12, 15, 18), (0, 12, 19, 13)] ∈ W0 := (mt4 (List.mem_of_getElem? (i := 219) rfl) rfl)
theorem sL_then : Cond.static yL_then ∈ W0 := (mt4 (List.mem_of_getElem? (i := 218) rfl) rfl)
abbrev mL_tipping : MT := (yL_tipping, cL_tipping, 4, (some .int))
theorem wL_tipping : Cond.codeWith yL_tipping cL_tipping 4 (some .int) [(0, 9, 12, 13)] ∈ W0 := (mt4 (List.mem_of_getElem? (i := 226) rfl) rfl)
theorem sL_tipping : Cond.static yL_tipping ∈ W0 := (mt4 (List.mem_of_getElem? (i := 225) rfl) rfl)
abbrev mL_next : MT := (yL_next, cL_next, 4, (some .int))
theorem wL_next : Cond.codeWith yL_next cL_next 4 (some .int) [(0, 9, 12, 18)] ∈ W0 := (mt4 (List.mem_of_getElem? (i := 233) rfl) rfl)
theorem sL_next : Cond.static yL_next ∈ W0 := (mt4 (List.mem_of_getElem? (i := 232) rfl) rfl)
abbrev mL_together : MT := (yL_together, cL_together, 4, (some .int))
theorem wL_together : Cond.codeWith yL_together cL_together 4 (some .int) [(0, 9, 12, 13)] ∈ W0 := (mt5 (List.mem_of_getElem? (i := 4) rfl) rfl)
theorem sL_together : Cond.static yL_together ∈ W0 := (mt5 (List.mem_of_getElem? (i := 3) rfl) rfl)
abbrev mL_sound : MT := (yL_sound, cL_sound, 5, (some .int))
theorem wL_sound : Cond.codeWith yL_sound cL_sound 5 (some .int) [(0, 10, 13, 18), (0, 10, 17, 13)] ∈ W0 := (mt5 (List.mem_of_getElem? (i := 16) rfl) rfl)
theorem sL_sound : Cond.static yL_sound ∈ W0 := (mt5 (List.mem_of_getElem? (i := 15) rfl) rfl)
abbrev mL_fallen : MT := (yL_fallen, cL_fallen, 5, (some .int))
theorem wL_fallen : Cond.codeWith yL_fallen cL_fallen 5 (some .int) [(0, 10, 13, 18), (0, 10, 17, 13)] ∈ W0 := (mt5 (List.mem_of_getElem? (i := 38) rfl) rfl)
theorem sL_fallen : Cond.static yL_fallen ∈ W0 := (mt5 (List.mem_of_getElem? (i := 37) rfl) rfl)
abbrev mL_nth : MT := (yL_nth, cL_nth, 5, (some .int))
theorem wL_nth : Cond.codeWith yL_nth cL_nth 5 (some .int) [(0, 10, 13, 18), (0, 10, 17, 13)] ∈ W0 := (mt5 (List.mem_of_getElem? (i := 58) rfl) rfl)
theorem sL_nth : Cond.static yL_nth ∈ W0 := (mt5 (List.mem_of_getElem? (i := 57) rfl) rfl)
abbrev mL_meeting : MT := (yL_meeting, cL_meeting, 4, (some .int))
theorem wL_meeting : Cond.codeWith yL_meeting cL_meeting 4 (some .int) [(0, 9, 12, 13)] ∈ W0 := (mt5 (List.mem_of_getElem? (i := 67) rfl) rfl)
theorem sL_meeting : Cond.static yL_meeting ∈ W0 := (mt5 (List.mem_of_getElem? (i := 66) rfl) rfl)
abbrev mL_flow : MT := (yL_flow, cL_flow, 5, (some .int))
theorem wL_flow : Cond.codeWith yL_flow cL_flow 5 (some .int) [(0, 10, 13, 18), (0, 10, 17, 13)] ∈ W0 := (mt5 (List.mem_of_getElem? (i := 84) rfl) rfl)
theorem sL_flow : Cond.static yL_flow ∈ W0 := (mt5 (List.mem_of_getElem? (i := 83) rfl) rfl)
abbrev mL_tier : MT := (yL_tier, cL_tier, 5, (some .int))
theorem wL_tier : Cond.codeWith yL_tier cL_tier 5 (some .int) [(0, 10, 13, 18)] ∈ W0 := (mt5 (List.mem_of_getElem? (i := 91) rfl) rfl)
theorem sL_tier : Cond.static yL_tier ∈ W0 := (mt5 (List.mem_of_getElem? (i := 90) rfl) rfl)
abbrev mL_toCrack : MT := (yL_toCrack, cL_toCrack, 7, (some .int))
theorem wL_toCrack : Cond.codeWith yL_toCrack cL_toCrack 7 (some .int) [(0, 14, 17, 18), (0, 14, 21, 13)] ∈ W0 := (mt5 (List.mem_of_getElem? (i := 106) rfl) rfl)
theorem sL_toCrack : Cond.static yL_toCrack ∈ W0 := (mt5 (List.mem_of_getElem? (i := 105) rfl) rfl)
abbrev mL_office : MT := (yL_office, cL_office, 5, (some .int))
theorem wL_office : Cond.codeWith yL_office cL_office 5 (some .int) [(0, 10, 13, 18), (0, 10, 17, 13)] ∈ W0 := (mt5 (List.mem_of_getElem? (i := 117) rfl) rfl)
theorem sL_office : Cond.static yL_office ∈ W0 := (mt5 (List.mem_of_getElem? (i := 116) rfl) rfl)
abbrev mL_hear : MT := (yL_hear, cL_hear, 6, (some .int))
theorem wL_hear : Cond.codeWith yL_hear cL_hear 6 (some .int) [(0, 12, 15, 18)] ∈ W0 := (mt5 (List.mem_of_getElem? (i := 128) rfl) rfl)
theorem sL_hear : Cond.static yL_hear ∈ W0 := (mt5 (List.mem_of_getElem? (i := 127) rfl) rfl)
abbrev mL_led : MT := (yL_led, cL_led, 4, (some .int))
theorem wL_led : Cond.codeWith yL_led cL_led 4 (some .int) [(0, 9, 12, 18)] ∈ W0 := (mt5 (List.mem_of_getElem? (i := 139) rfl) rfl)
theorem sL_led : Cond.static yL_led ∈ W0 := (mt5 (List.mem_of_getElem? (i := 138) rfl) rfl)
abbrev mL_listen : MT := (yL_listen, cL_listen, 4, (some .int))
theorem wL_listen : Cond.codeWith yL_listen cL_listen 4 (some .int) [(0, 9, 12, 18)] ∈ W0 := (mt5 (List.mem_of_getElem? (i := 178) rfl) rfl)
theorem sL_listen : Cond.static yL_listen ∈ W0 := (mt5 (List.mem_of_getElem? (i := 177) rfl) rfl)
abbrev mL_cold : MT := (yL_cold, cL_cold, 6, (some .int))
theorem wL_cold : Cond.codeWith yL_cold cL_cold 6 (some .int) [(0, 12, 15, 18), (0, 12, 19, 13)] ∈ W0 := (mt5 (List.mem_of_getElem? (i := 195) rfl) rfl)
theorem sL_cold : Cond.static yL_cold ∈ W0 := (mt5 (List.mem_of_getElem? (i := 194) rfl) rfl)
abbrev mL_game : MT := (yL_game, cL_game, 6, (some .int))
theorem wL_game : Cond.codeWith yL_game cL_game 6 (some .int) [(0, 12, 15, 18), (0, 12, 19, 13)] ∈ W0 := (mt5 (List.mem_of_getElem? (i := 203) rfl) rfl)
theorem sL_game : Cond.static yL_game ∈ W0 := (mt5 (List.mem_of_getElem? (i := 202) rfl) rfl)
abbrev mL_years : MT := (yL_years, cL_years, 6, (some .int))
theorem wL_years : Cond.codeWith yL_years cL_years 6 (some .int) [(0, 12, 15, 18), (0, 12, 19, 13)] ∈ W0 := (mt5 (List.mem_of_getElem? (i := 215) rfl) rfl)
theorem sL_years : Cond.static yL_years ∈ W0 := (mt5 (List.mem_of_getElem? (i := 214) rfl) rfl)
abbrev mL_later : MT := (yL_later, cL_later, 5, (some .int))
theorem wL_later : Cond.codeWith yL_later cL_later 5 (some .int) [(0, 10, 13, 18), (0, 10, 17, 13)] ∈ W0 := (mt5 (List.mem_of_getElem? (i := 239) rfl) rfl)
theorem sL_later : Cond.static yL_later ∈ W0 := (mt5 (List.mem_of_getElem? (i := 238) rfl) rfl)
abbrev mL_oftenest : MT := (yL_oftenest, cL_oftenest, 4, (some .int))
theorem wL_oftenest : Cond.codeWith yL_oftenest cL_oftenest 4 (some .int) [(0, 9, 12, 13)] ∈ W0 := (mt6 (List.mem_of_getElem? (i := 14) rfl) rfl)
theorem sL_oftenest : Cond.static yL_oftenest ∈ W0 := (mt6 (List.mem_of_getElem? (i := 13) rfl) rfl)
abbrev mL_pause : MT := (yL_pause, cL_pause, 4, (some .int))
theorem wL_pause : Cond.codeWith yL_pause cL_pause 4 (some .int) [(0, 9, 12, 18)] ∈ W0 := (mt6 (List.mem_of_getElem? (i := 21) rfl) rfl)
theorem sL_pause : Cond.static yL_pause ∈ W0 := (mt6 (List.mem_of_getElem? (i := 20) rfl) rfl)
abbrev mL_giver : MT := (yL_giver, cL_giver, 5, (some .int))
theorem wL_giver : Cond.codeWith yL_giver cL_giver 5 (some .int) [(0, 10, 13, 18), (0, 10, 17, 13)] ∈ W0 := (mt6 (List.mem_of_getElem? (i := 28) rfl) rfl)
theorem sL_giver : Cond.static yL_giver ∈ W0 := (mt6 (List.mem_of_getElem? (i := 27) rfl) rfl)
abbrev mL_toPour : MT := (yL_toPour, cL_toPour, 5, (some .int))
theorem wL_toPour : Cond.codeWith yL_toPour cL_toPour 5 (some .int) [(0, 10, 13, 18), (0, 10, 17, 13)] ∈ W0 := (mt6 (List.mem_of_getElem? (i := 41) rfl) rfl)
theorem sL_toPour : Cond.static yL_toPour ∈ W0 := (mt6 (List.mem_of_getElem? (i := 40) rfl) rfl)
abbrev mL_ways : MT := (yL_ways, cL_ways, 5, (some .int))
theorem wL_ways : Cond.codeWith yL_ways cL_ways 5 (some .int) [(0, 10, 13, 18)] ∈ W0 := (mt6 (List.mem_of_getElem? (i := 48) rfl) rfl)
theorem sL_ways : Cond.static yL_ways ∈ W0 := (mt6 (List.mem_of_getElem? (i := 47) rfl) rfl)
abbrev mL_chorus : MT := (yL_chorus, cL_chorus, 5, (some .int))
theorem wL_chorus : Cond.codeWith yL_chorus cL_chorus 5 (some .int) [(0, 10, 13, 13)] ∈ W0 := (mt6 (List.mem_of_getElem? (i := 59) rfl) rfl)
theorem sL_chorus : Cond.static yL_chorus ∈ W0 := (mt6 (List.mem_of_getElem? (i := 58) rfl) rfl)
abbrev mL_never : MT := (yL_never, cL_never, 4, (some .int))
theorem wL_never : Cond.codeWith yL_never cL_never 4 (some .int) [(0, 9, 12, 13)] ∈ W0 := (mt6 (List.mem_of_getElem? (i := 66) rfl) rfl)
theorem sL_never : Cond.static yL_never ∈ W0 := (mt6 (List.mem_of_getElem? (i := 65) rfl) rfl)
abbrev mL_swell : MT := (yL_swell, cL_swell, 5, (some .int))
theorem wL_swell : Cond.codeWith yL_swell cL_swell 5 (some .int) [(0, 10, 13, 18), (0, 10, 17, 13)] ∈ W0 := (mt6 (List.mem_of_getElem? (i := 73) rfl) rfl)
theorem sL_swell : Cond.static yL_swell ∈ W0 := (mt6 (List.mem_of_getElem? (i := 72) rfl) rfl)
def fL_cave (N : Nat) (p1 : Int32) (S : PS) : Option (Int32 × PS) :=
  bH (fX11_cave N p1 S) (fun x4 S2 =>
    lt ((S2.1, u2L S2.2.1 111 0 x4.toInt64, S2.2.2) : PS) fun S5 =>
    some (0, S5)) (fun S2 => none) (fun S2 => some (1, S2))
set_option maxHeartbeats 4000000 in
set_option maxRecDepth 100000 in
theorem okL_cave (N : Nat) (p1 : Int32) (S : PS) (r : Int32) (T : PS) (h : fL_cave N p1 S = some (r, T)) : CTW [(0, 9, 12, 13)] mL_cave 84 8 [.ref 0, .int p1, .ref 111] S (qI r T) := by
  refine ctw_of [some (.ref 0), some (.int p1), some (.ref 111), none] rfl (fun _ => rfl) (fun _ => Nat.le_of_ble_eq_true rfl) ?_
  unfold fL_cave at h
  refine r_aload_n (x := 111) dL_cave_0 rfl ?_
  refine r_iconst (v := 0) dL_cave_1 rfl ?_
  refine r_aload_n (x := 0) dL_cave_2 rfl ?_
  refine r_iload_n (x := p1) dL_cave_3 rfl ?_
  obtain ⟨x1, S2, h3, hx1, kx1⟩ := bH_e h
  refine r_callH (y := mX11_cave) (As := [.int p1]) (rest := [.int 0, .ref 111]) (hN := 0) (hI := 12) (e0 := 9) (sl := 3) (len := 1) (L' := [some (.ref 0), some (.int p1), some (.ref 111), none]) rfl dL_cave_4 qL_7 kX11_cave rfl rfl (okX11_cave N p1 S x1 S2 h3) (by decide) (by decide) rfl (Nat.le_of_ble_eq_true rfl) (Or.inr (Or.inl ⟨rfl, rfl⟩)) (by decide) (fun h9 => absurd rfl h9) (fun _ => Or.inl ⟨3, rfl, rfl, dL_cave_12⟩) (Nat.le_of_ble_eq_true rfl) rfl rfl (fun x4 ex1 => ?_) (fun Ex1 ex1 => ?_)
  · replace h := hx1 x4 ex1
    refine r_i2l dL_cave_7 ?_
    refine r_lastore (a := 111) (k9 := 0) dL_cave_8 ck111 nC111 ⟨by decide, by decide⟩ ?_
    refine r_topS (fun S5 hS5 => ?_)
    replace h := lt_e hS5 h
    refine r_goto (tgt := 15) dL_cave_9 (by decide) ?_
    refine r_iconst (v := 0) dL_cave_15 rfl ?_
    cases h
    exact r_ireturn dL_cave_16 rfl (by decide) ⟨rfl, rfl⟩
  · rcases kx1 Ex1 ex1 with ⟨rfl, h⟩ | ⟨rfl, h⟩
    · cases h
    · refine Or.inr ⟨rfl, by decide, ?_⟩
      refine r_iconst (v := 1) dL_cave_13 rfl ?_
      cases h
      exact r_ireturn dL_cave_14 rfl (by decide) ⟨rfl, rfl⟩
def fL_count (N : Nat) (p1 : Int32) (S : PS) : Option (Int32 × PS) :=
  bH (fX11_count N p1 S) (fun x4 S2 =>
    lt ((S2.1, u2L S2.2.1 111 0 x4.toInt64, S2.2.2) : PS) fun S5 =>
    some (0, S5)) (fun S2 => some (1, S2)) (fun S2 => none)
set_option maxHeartbeats 4000000 in
set_option maxRecDepth 100000 in
theorem okL_count (N : Nat) (p1 : Int32) (S : PS) (r : Int32) (T : PS) (h : fL_count N p1 S = some (r, T)) : CTW [(0, 9, 12, 18)] mL_count 8 8 [.ref 0, .int p1, .ref 111] S (qI r T) := by
  refine ctw_of [some (.ref 0), some (.int p1), some (.ref 111), none] rfl (fun _ => rfl) (fun _ => Nat.le_of_ble_eq_true rfl) ?_
  unfold fL_count at h
  refine r_aload_n (x := 111) dL_count_0 rfl ?_
  refine r_iconst (v := 0) dL_count_1 rfl ?_
  refine r_aload_n (x := 0) dL_count_2 rfl ?_
  refine r_iload_n (x := p1) dL_count_3 rfl ?_
  obtain ⟨x1, S2, h3, hx1, kx1⟩ := bH_e h
  refine r_callH (y := mX11_count) (As := [.int p1]) (rest := [.int 0, .ref 111]) (hN := 12) (hI := 0) (e0 := 9) (sl := 3) (len := 1) (L' := [some (.ref 0), some (.int p1), some (.ref 111), none]) rfl dL_count_4 qL_15 kX11_count rfl rfl (okX11_count N p1 S x1 S2 h3) (by decide) (by decide) rfl (Nat.le_of_ble_eq_true rfl) (Or.inl ⟨rfl, rfl⟩) (by decide) (fun _ => Or.inl ⟨3, rfl, rfl, dL_count_12⟩) (fun h9 => absurd rfl h9) (Nat.le_of_ble_eq_true rfl) rfl rfl (fun x4 ex1 => ?_) (fun Ex1 ex1 => ?_)
  · replace h := hx1 x4 ex1
    refine r_i2l dL_count_7 ?_
    refine r_lastore (a := 111) (k9 := 0) dL_count_8 ck111 nC111 ⟨by decide, by decide⟩ ?_
    refine r_topS (fun S5 hS5 => ?_)
    replace h := lt_e hS5 h
    refine r_goto (tgt := 15) dL_count_9 (by decide) ?_
    refine r_iconst (v := 0) dL_count_15 rfl ?_
    cases h
    exact r_ireturn dL_count_16 rfl (by decide) ⟨rfl, rfl⟩
  · rcases kx1 Ex1 ex1 with ⟨rfl, h⟩ | ⟨rfl, h⟩
    · refine Or.inl ⟨rfl, by decide, ?_⟩
      refine r_iconst (v := 1) dL_count_13 rfl ?_
      cases h
      exact r_ireturn dL_count_14 rfl (by decide) ⟨rfl, rfl⟩
    · cases h
def fL_cup (N : Nat) (p1 : Int32) (p2 : Int32) (S : PS) : Option (Int32 × PS) :=
  bH (fX11_cup N p1 p2 S) (fun x4 S2 =>
    lt ((S2.1, u2L S2.2.1 111 0 x4.toInt64, S2.2.2) : PS) fun S5 =>
    some (0, S5)) (fun S2 => some (1, S2)) (fun S2 => none)
set_option maxHeartbeats 4000000 in
set_option maxRecDepth 100000 in
theorem okL_cup (N : Nat) (p1 : Int32) (p2 : Int32) (S : PS) (r : Int32) (T : PS) (h : fL_cup N p1 p2 S = some (r, T)) : CTW [(0, 10, 13, 18)] mL_cup 8 8 [.ref 0, .int p1, .int p2, .ref 111] S (qI r T) := by
  refine ctw_of [some (.ref 0), some (.int p1), some (.int p2), some (.ref 111), none] rfl (fun _ => rfl) (fun _ => Nat.le_of_ble_eq_true rfl) ?_
  unfold fL_cup at h
  refine r_aload_n (x := 111) dL_cup_0 rfl ?_
  refine r_iconst (v := 0) dL_cup_1 rfl ?_
  refine r_aload_n (x := 0) dL_cup_2 rfl ?_
  refine r_iload_n (x := p1) dL_cup_3 rfl ?_
  refine r_iload_n (x := p2) dL_cup_4 rfl ?_
  obtain ⟨x1, S2, h3, hx1, kx1⟩ := bH_e h
  refine r_callH (y := mX11_cup) (As := [.int p1, .int p2]) (rest := [.int 0, .ref 111]) (hN := 13) (hI := 0) (e0 := 10) (sl := 4) (len := 2) (L' := [some (.ref 0), some (.int p1), some (.int p2), some (.ref 111), none]) rfl dL_cup_5 qL_20 kX11_cup rfl rfl (okX11_cup N p1 p2 S x1 S2 h3) (by decide) (by decide) rfl (Nat.le_of_ble_eq_true rfl) (Or.inl ⟨rfl, rfl⟩) (by decide) (fun _ => Or.inr ⟨rfl, dL_cup_13⟩) (fun h9 => absurd rfl h9) (Nat.le_of_ble_eq_true rfl) rfl rfl (fun x4 ex1 => ?_) (fun Ex1 ex1 => ?_)
  · replace h := hx1 x4 ex1
    refine r_i2l dL_cup_8 ?_
    refine r_lastore (a := 111) (k9 := 0) dL_cup_9 ck111 nC111 ⟨by decide, by decide⟩ ?_
    refine r_topS (fun S5 hS5 => ?_)
    replace h := lt_e hS5 h
    refine r_goto (tgt := 17) dL_cup_10 (by decide) ?_
    refine r_iconst (v := 0) dL_cup_17 rfl ?_
    cases h
    exact r_ireturn dL_cup_18 rfl (by decide) ⟨rfl, rfl⟩
  · rcases kx1 Ex1 ex1 with ⟨rfl, h⟩ | ⟨rfl, h⟩
    · refine Or.inl ⟨rfl, by decide, ?_⟩
      refine r_iconst (v := 1) dL_cup_15 rfl ?_
      cases h
      exact r_ireturn dL_cup_16 rfl (by decide) ⟨rfl, rfl⟩
    · cases h
def fL_lead (N : Nat) (p1 : Int32) (p2 : Int32) (S : PS) : Option (Int32 × PS) :=
  bH (fX11_lead N p1 p2 S) (fun x4 S2 =>
    (if x4 = 0 then
      lt ((S2.1, u2L S2.2.1 111 0 0, S2.2.2) : PS) fun S6 =>
      some (0, S6)
    else
      lt ((S2.1, u2L S2.2.1 111 0 1, S2.2.2) : PS) fun S7 =>
      some (0, S7))) (fun S2 => some (1, S2)) (fun S2 => none)
set_option maxHeartbeats 4000000 in
set_option maxRecDepth 100000 in
theorem okL_lead (N : Nat) (p1 : Int32) (p2 : Int32) (S : PS) (r : Int32) (T : PS) (h : fL_lead N p1 p2 S = some (r, T)) : CTW [(0, 17, 20, 18)] mL_lead 8 8 [.ref 0, .int p1, .int p2, .ref 111] S (qI r T) := by
  refine ctw_of [some (.ref 0), some (.int p1), some (.int p2), some (.ref 111), none] rfl (fun _ => rfl) (fun _ => Nat.le_of_ble_eq_true rfl) ?_
  unfold fL_lead at h
  refine r_aload_n (x := 111) dL_lead_0 rfl ?_
  refine r_iconst (v := 0) dL_lead_1 rfl ?_
  refine r_aload_n (x := 0) dL_lead_2 rfl ?_
  refine r_iload_n (x := p1) dL_lead_3 rfl ?_
  refine r_iload_n (x := p2) dL_lead_4 rfl ?_
  obtain ⟨x1, S2, h3, hx1, kx1⟩ := bH_e h
  refine r_callH (y := mX11_lead) (As := [.int p1, .int p2]) (rest := [.int 0, .ref 111]) (hN := 20) (hI := 0) (e0 := 17) (sl := 4) (len := 2) (L' := [some (.ref 0), some (.int p1), some (.int p2), some (.ref 111), none]) rfl dL_lead_5 qL_24 kX11_lead rfl rfl (okX11_lead N p1 p2 S x1 S2 h3) (by decide) (by decide) rfl (Nat.le_of_ble_eq_true rfl) (Or.inl ⟨rfl, rfl⟩) (by decide) (fun _ => Or.inr ⟨rfl, dL_lead_20⟩) (fun h9 => absurd rfl h9) (Nat.le_of_ble_eq_true rfl) rfl rfl (fun x4 ex1 => ?_) (fun Ex1 ex1 => ?_)
  · replace h := hx1 x4 ex1
    refine r_if_eq (tgt := 15) dL_lead_8 (by decide) (fun c5 => ?_) (fun c5 => ?_)
    · rw [if_pos c5] at h
      refine r_lconst (v := 0) dL_lead_15 rfl ?_
      refine r_lastore (a := 111) (k9 := 0) dL_lead_16 ck111 nC111 ⟨by decide, by decide⟩ ?_
      refine r_topS (fun S6 hS6 => ?_)
      replace h := lt_e hS6 h
      refine r_goto (tgt := 24) dL_lead_17 (by decide) ?_
      refine r_iconst (v := 0) dL_lead_24 rfl ?_
      cases h
      exact r_ireturn dL_lead_25 rfl (by decide) ⟨rfl, rfl⟩
    · rw [if_neg c5] at h
      refine r_lconst (v := 1) dL_lead_11 rfl ?_
      refine r_goto (tgt := 16) dL_lead_12 (by decide) ?_
      refine r_lastore (a := 111) (k9 := 0) dL_lead_16 ck111 nC111 ⟨by decide, by decide⟩ ?_
      refine r_topS (fun S7 hS7 => ?_)
      replace h := lt_e hS7 h
      refine r_goto (tgt := 24) dL_lead_17 (by decide) ?_
      refine r_iconst (v := 0) dL_lead_24 rfl ?_
      cases h
      exact r_ireturn dL_lead_25 rfl (by decide) ⟨rfl, rfl⟩
  · rcases kx1 Ex1 ex1 with ⟨rfl, h⟩ | ⟨rfl, h⟩
    · refine Or.inl ⟨rfl, by decide, ?_⟩
      refine r_iconst (v := 1) dL_lead_22 rfl ?_
      cases h
      exact r_ireturn dL_lead_23 rfl (by decide) ⟨rfl, rfl⟩
    · cases h
def fL_plug (N : Nat) (p1 : Int32) (p2 : Int32) (S : PS) : Option (Int32 × PS) :=
  bH (fX11_plug N p1 p2 S) (fun x4 S2 =>
    (if x4 = 0 then
      lt ((S2.1, u2L S2.2.1 111 0 0, S2.2.2) : PS) fun S6 =>
      some (0, S6)
    else
      lt ((S2.1, u2L S2.2.1 111 0 1, S2.2.2) : PS) fun S7 =>
      some (0, S7))) (fun S2 => some (1, S2)) (fun S2 => none)
set_option maxHeartbeats 4000000 in
set_option maxRecDepth 100000 in
theorem okL_plug (N : Nat) (p1 : Int32) (p2 : Int32) (S : PS) (r : Int32) (T : PS) (h : fL_plug N p1 p2 S = some (r, T)) : CTW [(0, 17, 20, 18)] mL_plug 8 8 [.ref 0, .int p1, .int p2, .ref 111] S (qI r T) := by
  refine ctw_of [some (.ref 0), some (.int p1), some (.int p2), some (.ref 111), none] rfl (fun _ => rfl) (fun _ => Nat.le_of_ble_eq_true rfl) ?_
  unfold fL_plug at h
  refine r_aload_n (x := 111) dL_plug_0 rfl ?_
  refine r_iconst (v := 0) dL_plug_1 rfl ?_
  refine r_aload_n (x := 0) dL_plug_2 rfl ?_
  refine r_iload_n (x := p1) dL_plug_3 rfl ?_
  refine r_iload_n (x := p2) dL_plug_4 rfl ?_
  obtain ⟨x1, S2, h3, hx1, kx1⟩ := bH_e h
  refine r_callH (y := mX11_plug) (As := [.int p1, .int p2]) (rest := [.int 0, .ref 111]) (hN := 20) (hI := 0) (e0 := 17) (sl := 4) (len := 2) (L' := [some (.ref 0), some (.int p1), some (.int p2), some (.ref 111), none]) rfl dL_plug_5 qL_28 kX11_plug rfl rfl (okX11_plug N p1 p2 S x1 S2 h3) (by decide) (by decide) rfl (Nat.le_of_ble_eq_true rfl) (Or.inl ⟨rfl, rfl⟩) (by decide) (fun _ => Or.inr ⟨rfl, dL_plug_20⟩) (fun h9 => absurd rfl h9) (Nat.le_of_ble_eq_true rfl) rfl rfl (fun x4 ex1 => ?_) (fun Ex1 ex1 => ?_)
  · replace h := hx1 x4 ex1
    refine r_if_eq (tgt := 15) dL_plug_8 (by decide) (fun c5 => ?_) (fun c5 => ?_)
    · rw [if_pos c5] at h
      refine r_lconst (v := 0) dL_plug_15 rfl ?_
      refine r_lastore (a := 111) (k9 := 0) dL_plug_16 ck111 nC111 ⟨by decide, by decide⟩ ?_
      refine r_topS (fun S6 hS6 => ?_)
      replace h := lt_e hS6 h
      refine r_goto (tgt := 24) dL_plug_17 (by decide) ?_
      refine r_iconst (v := 0) dL_plug_24 rfl ?_
      cases h
      exact r_ireturn dL_plug_25 rfl (by decide) ⟨rfl, rfl⟩
    · rw [if_neg c5] at h
      refine r_lconst (v := 1) dL_plug_11 rfl ?_
      refine r_goto (tgt := 16) dL_plug_12 (by decide) ?_
      refine r_lastore (a := 111) (k9 := 0) dL_plug_16 ck111 nC111 ⟨by decide, by decide⟩ ?_
      refine r_topS (fun S7 hS7 => ?_)
      replace h := lt_e hS7 h
      refine r_goto (tgt := 24) dL_plug_17 (by decide) ?_
      refine r_iconst (v := 0) dL_plug_24 rfl ?_
      cases h
      exact r_ireturn dL_plug_25 rfl (by decide) ⟨rfl, rfl⟩
  · rcases kx1 Ex1 ex1 with ⟨rfl, h⟩ | ⟨rfl, h⟩
    · refine Or.inl ⟨rfl, by decide, ?_⟩
      refine r_iconst (v := 1) dL_plug_22 rfl ?_
      cases h
      exact r_ireturn dL_plug_23 rfl (by decide) ⟨rfl, rfl⟩
    · cases h
def fL_pour (N : Nat) (p1 : Int32) (p2 : Int32) (S : PS) : Option (Int32 × PS) :=
  bH (fX11_pour N p1 p2 S) (fun x4 S2 =>
    lt ((S2.1, u2L S2.2.1 111 0 x4.toInt64, S2.2.2) : PS) fun S5 =>
    some (0, S5)) (fun S2 => some (1, S2)) (fun S2 => none)
set_option maxHeartbeats 4000000 in
set_option maxRecDepth 100000 in
theorem okL_pour (N : Nat) (p1 : Int32) (p2 : Int32) (S : PS) (r : Int32) (T : PS) (h : fL_pour N p1 p2 S = some (r, T)) : CTW [(0, 10, 13, 18)] mL_pour 8 8 [.ref 0, .int p1, .int p2, .ref 111] S (qI r T) := by
  refine ctw_of [some (.ref 0), some (.int p1), some (.int p2), some (.ref 111), none] rfl (fun _ => rfl) (fun _ => Nat.le_of_ble_eq_true rfl) ?_
  unfold fL_pour at h
  refine r_aload_n (x := 111) dL_pour_0 rfl ?_
  refine r_iconst (v := 0) dL_pour_1 rfl ?_
  refine r_aload_n (x := 0) dL_pour_2 rfl ?_
  refine r_iload_n (x := p1) dL_pour_3 rfl ?_
  refine r_iload_n (x := p2) dL_pour_4 rfl ?_
  obtain ⟨x1, S2, h3, hx1, kx1⟩ := bH_e h
  refine r_callH (y := mX11_pour) (As := [.int p1, .int p2]) (rest := [.int 0, .ref 111]) (hN := 13) (hI := 0) (e0 := 10) (sl := 4) (len := 2) (L' := [some (.ref 0), some (.int p1), some (.int p2), some (.ref 111), none]) rfl dL_pour_5 qL_32 kX11_pour rfl rfl (okX11_pour N p1 p2 S x1 S2 h3) (by decide) (by decide) rfl (Nat.le_of_ble_eq_true rfl) (Or.inl ⟨rfl, rfl⟩) (by decide) (fun _ => Or.inr ⟨rfl, dL_pour_13⟩) (fun h9 => absurd rfl h9) (Nat.le_of_ble_eq_true rfl) rfl rfl (fun x4 ex1 => ?_) (fun Ex1 ex1 => ?_)
  · replace h := hx1 x4 ex1
    refine r_i2l dL_pour_8 ?_
    refine r_lastore (a := 111) (k9 := 0) dL_pour_9 ck111 nC111 ⟨by decide, by decide⟩ ?_
    refine r_topS (fun S5 hS5 => ?_)
    replace h := lt_e hS5 h
    refine r_goto (tgt := 17) dL_pour_10 (by decide) ?_
    refine r_iconst (v := 0) dL_pour_17 rfl ?_
    cases h
    exact r_ireturn dL_pour_18 rfl (by decide) ⟨rfl, rfl⟩
  · rcases kx1 Ex1 ex1 with ⟨rfl, h⟩ | ⟨rfl, h⟩
    · refine Or.inl ⟨rfl, by decide, ?_⟩
      refine r_iconst (v := 1) dL_pour_15 rfl ?_
      cases h
      exact r_ireturn dL_pour_16 rfl (by decide) ⟨rfl, rfl⟩
    · cases h
def fL_crack (N : Nat) (p1 : Int32) (p2 : Int32) (S : PS) : Option (Int32 × PS) :=
  bH (fX11_crack N p1 p2 S) (fun x4 S2 =>
    lt ((S2.1, u2L S2.2.1 111 0 x4.toInt64, S2.2.2) : PS) fun S5 =>
    some (0, S5)) (fun S2 => some (1, S2)) (fun S2 => none)
set_option maxHeartbeats 4000000 in
set_option maxRecDepth 100000 in
theorem okL_crack (N : Nat) (p1 : Int32) (p2 : Int32) (S : PS) (r : Int32) (T : PS) (h : fL_crack N p1 p2 S = some (r, T)) : CTW [(0, 10, 13, 18)] mL_crack 8 8 [.ref 0, .int p1, .int p2, .ref 111] S (qI r T) := by
  refine ctw_of [some (.ref 0), some (.int p1), some (.int p2), some (.ref 111), none] rfl (fun _ => rfl) (fun _ => Nat.le_of_ble_eq_true rfl) ?_
  unfold fL_crack at h
  refine r_aload_n (x := 111) dL_crack_0 rfl ?_
  refine r_iconst (v := 0) dL_crack_1 rfl ?_
  refine r_aload_n (x := 0) dL_crack_2 rfl ?_
  refine r_iload_n (x := p1) dL_crack_3 rfl ?_
  refine r_iload_n (x := p2) dL_crack_4 rfl ?_
  obtain ⟨x1, S2, h3, hx1, kx1⟩ := bH_e h
  refine r_callH (y := mX11_crack) (As := [.int p1, .int p2]) (rest := [.int 0, .ref 111]) (hN := 13) (hI := 0) (e0 := 10) (sl := 4) (len := 2) (L' := [some (.ref 0), some (.int p1), some (.int p2), some (.ref 111), none]) rfl dL_crack_5 qL_35 kX11_crack rfl rfl (okX11_crack N p1 p2 S x1 S2 h3) (by decide) (by decide) rfl (Nat.le_of_ble_eq_true rfl) (Or.inl ⟨rfl, rfl⟩) (by decide) (fun _ => Or.inr ⟨rfl, dL_crack_13⟩) (fun h9 => absurd rfl h9) (Nat.le_of_ble_eq_true rfl) rfl rfl (fun x4 ex1 => ?_) (fun Ex1 ex1 => ?_)
  · replace h := hx1 x4 ex1
    refine r_i2l dL_crack_8 ?_
    refine r_lastore (a := 111) (k9 := 0) dL_crack_9 ck111 nC111 ⟨by decide, by decide⟩ ?_
    refine r_topS (fun S5 hS5 => ?_)
    replace h := lt_e hS5 h
    refine r_goto (tgt := 17) dL_crack_10 (by decide) ?_
    refine r_iconst (v := 0) dL_crack_17 rfl ?_
    cases h
    exact r_ireturn dL_crack_18 rfl (by decide) ⟨rfl, rfl⟩
  · rcases kx1 Ex1 ex1 with ⟨rfl, h⟩ | ⟨rfl, h⟩
    · refine Or.inl ⟨rfl, by decide, ?_⟩
      refine r_iconst (v := 1) dL_crack_15 rfl ?_
      cases h
      exact r_ireturn dL_crack_16 rfl (by decide) ⟨rfl, rfl⟩
    · cases h
def fL_then (N : Nat) (p1 : Int32) (p2 : Int32) (p3 : Int32) (S : PS) : Option (Int32 × PS) :=
  bH (fX11_then N p1 p2 p3 S) (fun x4 S2 =>
    lt ((S2.1, u2L S2.2.1 111 0 x4.toInt64, S2.2.2) : PS) fun S5 =>
    some (0, S5)) (fun S2 => some (1, S2)) (fun S2 => some (2, S2))
set_option maxHeartbeats 4000000 in
set_option maxRecDepth 100000 in
theorem okL_then (N : Nat) (p1 : Int32) (p2 : Int32) (p3 : Int32) (S : PS) (r : Int32) (T : PS) (h : fL_then N p1 p2 p3 S = some (r, T)) : CTW [(0, 12, 15, 18), (0, 12, 19, 13)] mL_then 8 8 [.ref 0, .int p1, .int p2, .int p3, .ref 111] S (qI r T) := by
  refine ctw_of [some (.ref 0), some (.int p1), some (.int p2), some (.int p3), some (.ref 111), none] rfl (fun _ => rfl) (fun _ => Nat.le_of_ble_eq_true rfl) ?_
  unfold fL_then at h
  refine r_aload (x := 111) dL_then_0 rfl ?_
  refine r_iconst (v := 0) dL_then_2 rfl ?_
  refine r_aload_n (x := 0) dL_then_3 rfl ?_
  refine r_iload_n (x := p1) dL_then_4 rfl ?_
  refine r_iload_n (x := p2) dL_then_5 rfl ?_
  refine r_iload_n (x := p3) dL_then_6 rfl ?_
  obtain ⟨x1, S2, h3, hx1, kx1⟩ := bH_e h
  refine r_callH (y := mX11_then) (As := [.int p1, .int p2, .int p3]) (rest := [.int 0, .ref 111]) (hN := 15) (hI := 19) (e0 := 12) (sl := 5) (len := 2) (L' := [some (.ref 0), some (.int p1), some (.int p2), some (.int p3), some (.ref 111), none]) rfl dL_then_7 qL_38 kX11_then rfl rfl (okX11_then N p1 p2 p3 S x1 S2 h3) (by decide) (by decide) rfl (Nat.le_of_ble_eq_true rfl) (Or.inr (Or.inr rfl)) (by decide) (fun _ => Or.inr ⟨rfl, dL_then_15⟩) (fun _ => Or.inr ⟨rfl, dL_then_19⟩) (Nat.le_of_ble_eq_true rfl) rfl rfl (fun x4 ex1 => ?_) (fun Ex1 ex1 => ?_)
  · replace h := hx1 x4 ex1
    refine r_i2l dL_then_10 ?_
    refine r_lastore (a := 111) (k9 := 0) dL_then_11 ck111 nC111 ⟨by decide, by decide⟩ ?_
    refine r_topS (fun S5 hS5 => ?_)
    replace h := lt_e hS5 h
    refine r_goto (tgt := 23) dL_then_12 (by decide) ?_
    refine r_iconst (v := 0) dL_then_23 rfl ?_
    cases h
    exact r_ireturn dL_then_24 rfl (by decide) ⟨rfl, rfl⟩
  · rcases kx1 Ex1 ex1 with ⟨rfl, h⟩ | ⟨rfl, h⟩
    · refine Or.inl ⟨rfl, by decide, ?_⟩
      refine r_iconst (v := 1) dL_then_17 rfl ?_
      cases h
      exact r_ireturn dL_then_18 rfl (by decide) ⟨rfl, rfl⟩
    · refine Or.inr ⟨rfl, by decide, ?_⟩
      refine r_iconst (v := 2) dL_then_21 rfl ?_
      cases h
      exact r_ireturn dL_then_22 rfl (by decide) ⟨rfl, rfl⟩
def fL_tipping (N : Nat) (p1 : Int32) (S : PS) : Option (Int32 × PS) :=
  bH (fX11_tipping N p1 S) (fun x4 S2 =>
    lt ((S2.1, u2L S2.2.1 111 0 x4.toInt64, S2.2.2) : PS) fun S5 =>
    some (0, S5)) (fun S2 => none) (fun S2 => some (1, S2))
set_option maxHeartbeats 4000000 in
set_option maxRecDepth 100000 in
theorem okL_tipping (N : Nat) (p1 : Int32) (S : PS) (r : Int32) (T : PS) (h : fL_tipping N p1 S = some (r, T)) : CTW [(0, 9, 12, 13)] mL_tipping 8 8 [.ref 0, .int p1, .ref 111] S (qI r T) := by
  refine ctw_of [some (.ref 0), some (.int p1), some (.ref 111), none] rfl (fun _ => rfl) (fun _ => Nat.le_of_ble_eq_true rfl) ?_
  unfold fL_tipping at h
  refine r_aload_n (x := 111) dL_tipping_0 rfl ?_
  refine r_iconst (v := 0) dL_tipping_1 rfl ?_
  refine r_aload_n (x := 0) dL_tipping_2 rfl ?_
  refine r_iload_n (x := p1) dL_tipping_3 rfl ?_
  obtain ⟨x1, S2, h3, hx1, kx1⟩ := bH_e h
  refine r_callH (y := mX11_tipping) (As := [.int p1]) (rest := [.int 0, .ref 111]) (hN := 0) (hI := 12) (e0 := 9) (sl := 3) (len := 1) (L' := [some (.ref 0), some (.int p1), some (.ref 111), none]) rfl dL_tipping_4 qL_42 kX11_tipping rfl rfl (okX11_tipping N p1 S x1 S2 h3) (by decide) (by decide) rfl (Nat.le_of_ble_eq_true rfl) (Or.inr (Or.inl ⟨rfl, rfl⟩)) (by decide) (fun h9 => absurd rfl h9) (fun _ => Or.inl ⟨3, rfl, rfl, dL_tipping_12⟩) (Nat.le_of_ble_eq_true rfl) rfl rfl (fun x4 ex1 => ?_) (fun Ex1 ex1 => ?_)
  · replace h := hx1 x4 ex1
    refine r_i2l dL_tipping_7 ?_
    refine r_lastore (a := 111) (k9 := 0) dL_tipping_8 ck111 nC111 ⟨by decide, by decide⟩ ?_
    refine r_topS (fun S5 hS5 => ?_)
    replace h := lt_e hS5 h
    refine r_goto (tgt := 15) dL_tipping_9 (by decide) ?_
    refine r_iconst (v := 0) dL_tipping_15 rfl ?_
    cases h
    exact r_ireturn dL_tipping_16 rfl (by decide) ⟨rfl, rfl⟩
  · rcases kx1 Ex1 ex1 with ⟨rfl, h⟩ | ⟨rfl, h⟩
    · cases h
    · refine Or.inr ⟨rfl, by decide, ?_⟩
      refine r_iconst (v := 1) dL_tipping_13 rfl ?_
      cases h
      exact r_ireturn dL_tipping_14 rfl (by decide) ⟨rfl, rfl⟩
def fL_next (N : Nat) (p1 : Int32) (S : PS) : Option (Int32 × PS) :=
  bH (fX11_next N p1 S) (fun x4 S2 =>
    lt ((S2.1, u2L S2.2.1 111 0 x4.toInt64, S2.2.2) : PS) fun S5 =>
    some (0, S5)) (fun S2 => some (1, S2)) (fun S2 => none)
set_option maxHeartbeats 4000000 in
set_option maxRecDepth 100000 in
theorem okL_next (N : Nat) (p1 : Int32) (S : PS) (r : Int32) (T : PS) (h : fL_next N p1 S = some (r, T)) : CTW [(0, 9, 12, 18)] mL_next 8 8 [.ref 0, .int p1, .ref 111] S (qI r T) := by
  refine ctw_of [some (.ref 0), some (.int p1), some (.ref 111), none] rfl (fun _ => rfl) (fun _ => Nat.le_of_ble_eq_true rfl) ?_
  unfold fL_next at h
  refine r_aload_n (x := 111) dL_next_0 rfl ?_
  refine r_iconst (v := 0) dL_next_1 rfl ?_
  refine r_aload_n (x := 0) dL_next_2 rfl ?_
  refine r_iload_n (x := p1) dL_next_3 rfl ?_
  obtain ⟨x1, S2, h3, hx1, kx1⟩ := bH_e h
  refine r_callH (y := mX11_next) (As := [.int p1]) (rest := [.int 0, .ref 111]) (hN := 12) (hI := 0) (e0 := 9) (sl := 3) (len := 1) (L' := [some (.ref 0), some (.int p1), some (.ref 111), none]) rfl dL_next_4 qL_45 kX11_next rfl rfl (okX11_next N p1 S x1 S2 h3) (by decide) (by decide) rfl (Nat.le_of_ble_eq_true rfl) (Or.inl ⟨rfl, rfl⟩) (by decide) (fun _ => Or.inl ⟨3, rfl, rfl, dL_next_12⟩) (fun h9 => absurd rfl h9) (Nat.le_of_ble_eq_true rfl) rfl rfl (fun x4 ex1 => ?_) (fun Ex1 ex1 => ?_)
  · replace h := hx1 x4 ex1
    refine r_i2l dL_next_7 ?_
    refine r_lastore (a := 111) (k9 := 0) dL_next_8 ck111 nC111 ⟨by decide, by decide⟩ ?_
    refine r_topS (fun S5 hS5 => ?_)
    replace h := lt_e hS5 h
    refine r_goto (tgt := 15) dL_next_9 (by decide) ?_
    refine r_iconst (v := 0) dL_next_15 rfl ?_
    cases h
    exact r_ireturn dL_next_16 rfl (by decide) ⟨rfl, rfl⟩
  · rcases kx1 Ex1 ex1 with ⟨rfl, h⟩ | ⟨rfl, h⟩
    · refine Or.inl ⟨rfl, by decide, ?_⟩
      refine r_iconst (v := 1) dL_next_13 rfl ?_
      cases h
      exact r_ireturn dL_next_14 rfl (by decide) ⟨rfl, rfl⟩
    · cases h
def fL_together (N : Nat) (p1 : Int32) (S : PS) : Option (Int32 × PS) :=
  bH (fX11_together N p1 S) (fun x4 S2 =>
    lt ((S2.1, u2L S2.2.1 111 0 x4.toInt64, S2.2.2) : PS) fun S5 =>
    some (0, S5)) (fun S2 => none) (fun S2 => some (1, S2))
set_option maxHeartbeats 4000000 in
set_option maxRecDepth 100000 in
theorem okL_together (N : Nat) (p1 : Int32) (S : PS) (r : Int32) (T : PS) (h : fL_together N p1 S = some (r, T)) : CTW [(0, 9, 12, 13)] mL_together 8 8 [.ref 0, .int p1, .ref 111] S (qI r T) := by
  refine ctw_of [some (.ref 0), some (.int p1), some (.ref 111), none] rfl (fun _ => rfl) (fun _ => Nat.le_of_ble_eq_true rfl) ?_
  unfold fL_together at h
  refine r_aload_n (x := 111) dL_together_0 rfl ?_
  refine r_iconst (v := 0) dL_together_1 rfl ?_
  refine r_aload_n (x := 0) dL_together_2 rfl ?_
  refine r_iload_n (x := p1) dL_together_3 rfl ?_
  obtain ⟨x1, S2, h3, hx1, kx1⟩ := bH_e h
  refine r_callH (y := mX11_together) (As := [.int p1]) (rest := [.int 0, .ref 111]) (hN := 0) (hI := 12) (e0 := 9) (sl := 3) (len := 1) (L' := [some (.ref 0), some (.int p1), some (.ref 111), none]) rfl dL_together_4 qL_48 kX11_together rfl rfl (okX11_together N p1 S x1 S2 h3) (by decide) (by decide) rfl (Nat.le_of_ble_eq_true rfl) (Or.inr (Or.inl ⟨rfl, rfl⟩)) (by decide) (fun h9 => absurd rfl h9) (fun _ => Or.inl ⟨3, rfl, rfl, dL_together_12⟩) (Nat.le_of_ble_eq_true rfl) rfl rfl (fun x4 ex1 => ?_) (fun Ex1 ex1 => ?_)
  · replace h := hx1 x4 ex1
    refine r_i2l dL_together_7 ?_
    refine r_lastore (a := 111) (k9 := 0) dL_together_8 ck111 nC111 ⟨by decide, by decide⟩ ?_
    refine r_topS (fun S5 hS5 => ?_)
    replace h := lt_e hS5 h
    refine r_goto (tgt := 15) dL_together_9 (by decide) ?_
    refine r_iconst (v := 0) dL_together_15 rfl ?_
    cases h
    exact r_ireturn dL_together_16 rfl (by decide) ⟨rfl, rfl⟩
  · rcases kx1 Ex1 ex1 with ⟨rfl, h⟩ | ⟨rfl, h⟩
    · cases h
    · refine Or.inr ⟨rfl, by decide, ?_⟩
      refine r_iconst (v := 1) dL_together_13 rfl ?_
      cases h
      exact r_ireturn dL_together_14 rfl (by decide) ⟨rfl, rfl⟩
def fL_sound (N : Nat) (p1 : Int32) (p2 : Int32) (S : PS) : Option (Int32 × PS) :=
  bH (fX11_sound N p1 p2 S) (fun x4 S2 =>
    lt ((S2.1, u2L S2.2.1 111 0 x4.toInt64, S2.2.2) : PS) fun S5 =>
    some (0, S5)) (fun S2 => some (1, S2)) (fun S2 => some (2, S2))
set_option maxHeartbeats 4000000 in
set_option maxRecDepth 100000 in
theorem okL_sound (N : Nat) (p1 : Int32) (p2 : Int32) (S : PS) (r : Int32) (T : PS) (h : fL_sound N p1 p2 S = some (r, T)) : CTW [(0, 10, 13, 18), (0, 10, 17, 13)] mL_sound 8 8 [.ref 0, .int p1, .int p2, .ref 111] S (qI r T) := by
  refine ctw_of [some (.ref 0), some (.int p1), some (.int p2), some (.ref 111), none] rfl (fun _ => rfl) (fun _ => Nat.le_of_ble_eq_true rfl) ?_
  unfold fL_sound at h
  refine r_aload_n (x := 111) dL_sound_0 rfl ?_
  refine r_iconst (v := 0) dL_sound_1 rfl ?_
  refine r_aload_n (x := 0) dL_sound_2 rfl ?_
  refine r_iload_n (x := p1) dL_sound_3 rfl ?_
  refine r_iload_n (x := p2) dL_sound_4 rfl ?_
  obtain ⟨x1, S2, h3, hx1, kx1⟩ := bH_e h
  refine r_callH (y := mX11_sound) (As := [.int p1, .int p2]) (rest := [.int 0, .ref 111]) (hN := 13) (hI := 17) (e0 := 10) (sl := 4) (len := 2) (L' := [some (.ref 0), some (.int p1), some (.int p2), some (.ref 111), none]) rfl dL_sound_5 qL_51 kX11_sound rfl rfl (okX11_sound N p1 p2 S x1 S2 h3) (by decide) (by decide) rfl (Nat.le_of_ble_eq_true rfl) (Or.inr (Or.inr rfl)) (by decide) (fun _ => Or.inr ⟨rfl, dL_sound_13⟩) (fun _ => Or.inr ⟨rfl, dL_sound_17⟩) (Nat.le_of_ble_eq_true rfl) rfl rfl (fun x4 ex1 => ?_) (fun Ex1 ex1 => ?_)
  · replace h := hx1 x4 ex1
    refine r_i2l dL_sound_8 ?_
    refine r_lastore (a := 111) (k9 := 0) dL_sound_9 ck111 nC111 ⟨by decide, by decide⟩ ?_
    refine r_topS (fun S5 hS5 => ?_)
    replace h := lt_e hS5 h
    refine r_goto (tgt := 21) dL_sound_10 (by decide) ?_
    refine r_iconst (v := 0) dL_sound_21 rfl ?_
    cases h
    exact r_ireturn dL_sound_22 rfl (by decide) ⟨rfl, rfl⟩
  · rcases kx1 Ex1 ex1 with ⟨rfl, h⟩ | ⟨rfl, h⟩
    · refine Or.inl ⟨rfl, by decide, ?_⟩
      refine r_iconst (v := 1) dL_sound_15 rfl ?_
      cases h
      exact r_ireturn dL_sound_16 rfl (by decide) ⟨rfl, rfl⟩
    · refine Or.inr ⟨rfl, by decide, ?_⟩
      refine r_iconst (v := 2) dL_sound_19 rfl ?_
      cases h
      exact r_ireturn dL_sound_20 rfl (by decide) ⟨rfl, rfl⟩
def fL_fallen (N : Nat) (p1 : Int32) (p2 : Int32) (S : PS) : Option (Int32 × PS) :=
  bH (fX11_fallen N p1 p2 S) (fun x4 S2 =>
    lt ((S2.1, u2L S2.2.1 111 0 x4.toInt64, S2.2.2) : PS) fun S5 =>
    some (0, S5)) (fun S2 => some (1, S2)) (fun S2 => some (2, S2))
set_option maxHeartbeats 4000000 in
set_option maxRecDepth 100000 in
theorem okL_fallen (N : Nat) (p1 : Int32) (p2 : Int32) (S : PS) (r : Int32) (T : PS) (h : fL_fallen N p1 p2 S = some (r, T)) : CTW [(0, 10, 13, 18), (0, 10, 17, 13)] mL_fallen 8 8 [.ref 0, .int p1, .int p2, .ref 111] S (qI r T) := by
  refine ctw_of [some (.ref 0), some (.int p1), some (.int p2), some (.ref 111), none] rfl (fun _ => rfl) (fun _ => Nat.le_of_ble_eq_true rfl) ?_
  unfold fL_fallen at h
  refine r_aload_n (x := 111) dL_fallen_0 rfl ?_
  refine r_iconst (v := 0) dL_fallen_1 rfl ?_
  refine r_aload_n (x := 0) dL_fallen_2 rfl ?_
  refine r_iload_n (x := p1) dL_fallen_3 rfl ?_
  refine r_iload_n (x := p2) dL_fallen_4 rfl ?_
  obtain ⟨x1, S2, h3, hx1, kx1⟩ := bH_e h
  refine r_callH (y := mX11_fallen) (As := [.int p1, .int p2]) (rest := [.int 0, .ref 111]) (hN := 13) (hI := 17) (e0 := 10) (sl := 4) (len := 2) (L' := [some (.ref 0), some (.int p1), some (.int p2), some (.ref 111), none]) rfl dL_fallen_5 qL_54 kX11_fallen rfl rfl (okX11_fallen N p1 p2 S x1 S2 h3) (by decide) (by decide) rfl (Nat.le_of_ble_eq_true rfl) (Or.inr (Or.inr rfl)) (by decide) (fun _ => Or.inr ⟨rfl, dL_fallen_13⟩) (fun _ => Or.inr ⟨rfl, dL_fallen_17⟩) (Nat.le_of_ble_eq_true rfl) rfl rfl (fun x4 ex1 => ?_) (fun Ex1 ex1 => ?_)
  · replace h := hx1 x4 ex1
    refine r_i2l dL_fallen_8 ?_
    refine r_lastore (a := 111) (k9 := 0) dL_fallen_9 ck111 nC111 ⟨by decide, by decide⟩ ?_
    refine r_topS (fun S5 hS5 => ?_)
    replace h := lt_e hS5 h
    refine r_goto (tgt := 21) dL_fallen_10 (by decide) ?_
    refine r_iconst (v := 0) dL_fallen_21 rfl ?_
    cases h
    exact r_ireturn dL_fallen_22 rfl (by decide) ⟨rfl, rfl⟩
  · rcases kx1 Ex1 ex1 with ⟨rfl, h⟩ | ⟨rfl, h⟩
    · refine Or.inl ⟨rfl, by decide, ?_⟩
      refine r_iconst (v := 1) dL_fallen_15 rfl ?_
      cases h
      exact r_ireturn dL_fallen_16 rfl (by decide) ⟨rfl, rfl⟩
    · refine Or.inr ⟨rfl, by decide, ?_⟩
      refine r_iconst (v := 2) dL_fallen_19 rfl ?_
      cases h
      exact r_ireturn dL_fallen_20 rfl (by decide) ⟨rfl, rfl⟩
def fL_nth (N : Nat) (p1 : Int32) (p2 : Int32) (S : PS) : Option (Int32 × PS) :=
  bH (fX11_nth N p1 p2 S) (fun x4 S2 =>
    lt ((S2.1, u2L S2.2.1 111 0 x4.toInt64, S2.2.2) : PS) fun S5 =>
    some (0, S5)) (fun S2 => some (1, S2)) (fun S2 => some (2, S2))
set_option maxHeartbeats 4000000 in
set_option maxRecDepth 100000 in
theorem okL_nth (N : Nat) (p1 : Int32) (p2 : Int32) (S : PS) (r : Int32) (T : PS) (h : fL_nth N p1 p2 S = some (r, T)) : CTW [(0, 10, 13, 18), (0, 10, 17, 13)] mL_nth 8 8 [.ref 0, .int p1, .int p2, .ref 111] S (qI r T) := by
  refine ctw_of [some (.ref 0), some (.int p1), some (.int p2), some (.ref 111), none] rfl (fun _ => rfl) (fun _ => Nat.le_of_ble_eq_true rfl) ?_
  unfold fL_nth at h
  refine r_aload_n (x := 111) dL_nth_0 rfl ?_
  refine r_iconst (v := 0) dL_nth_1 rfl ?_
  refine r_aload_n (x := 0) dL_nth_2 rfl ?_
  refine r_iload_n (x := p1) dL_nth_3 rfl ?_
  refine r_iload_n (x := p2) dL_nth_4 rfl ?_
  obtain ⟨x1, S2, h3, hx1, kx1⟩ := bH_e h
  refine r_callH (y := mX11_nth) (As := [.int p1, .int p2]) (rest := [.int 0, .ref 111]) (hN := 13) (hI := 17) (e0 := 10) (sl := 4) (len := 2) (L' := [some (.ref 0), some (.int p1), some (.int p2), some (.ref 111), none]) rfl dL_nth_5 qL_57 kX11_nth rfl rfl (okX11_nth N p1 p2 S x1 S2 h3) (by decide) (by decide) rfl (Nat.le_of_ble_eq_true rfl) (Or.inr (Or.inr rfl)) (by decide) (fun _ => Or.inr ⟨rfl, dL_nth_13⟩) (fun _ => Or.inr ⟨rfl, dL_nth_17⟩) (Nat.le_of_ble_eq_true rfl) rfl rfl (fun x4 ex1 => ?_) (fun Ex1 ex1 => ?_)
  · replace h := hx1 x4 ex1
    refine r_i2l dL_nth_8 ?_
    refine r_lastore (a := 111) (k9 := 0) dL_nth_9 ck111 nC111 ⟨by decide, by decide⟩ ?_
    refine r_topS (fun S5 hS5 => ?_)
    replace h := lt_e hS5 h
    refine r_goto (tgt := 21) dL_nth_10 (by decide) ?_
    refine r_iconst (v := 0) dL_nth_21 rfl ?_
    cases h
    exact r_ireturn dL_nth_22 rfl (by decide) ⟨rfl, rfl⟩
  · rcases kx1 Ex1 ex1 with ⟨rfl, h⟩ | ⟨rfl, h⟩
    · refine Or.inl ⟨rfl, by decide, ?_⟩
      refine r_iconst (v := 1) dL_nth_15 rfl ?_
      cases h
      exact r_ireturn dL_nth_16 rfl (by decide) ⟨rfl, rfl⟩
    · refine Or.inr ⟨rfl, by decide, ?_⟩
      refine r_iconst (v := 2) dL_nth_19 rfl ?_
      cases h
      exact r_ireturn dL_nth_20 rfl (by decide) ⟨rfl, rfl⟩
def fL_meeting (N : Nat) (p1 : Int32) (S : PS) : Option (Int32 × PS) :=
  bH (fX11_meeting N p1 S) (fun x4 S2 =>
    lt ((S2.1, u2L S2.2.1 111 0 x4.toInt64, S2.2.2) : PS) fun S5 =>
    some (0, S5)) (fun S2 => none) (fun S2 => some (1, S2))
set_option maxHeartbeats 4000000 in
set_option maxRecDepth 100000 in
theorem okL_meeting (N : Nat) (p1 : Int32) (S : PS) (r : Int32) (T : PS) (h : fL_meeting N p1 S = some (r, T)) : CTW [(0, 9, 12, 13)] mL_meeting 8 8 [.ref 0, .int p1, .ref 111] S (qI r T) := by
  refine ctw_of [some (.ref 0), some (.int p1), some (.ref 111), none] rfl (fun _ => rfl) (fun _ => Nat.le_of_ble_eq_true rfl) ?_
  unfold fL_meeting at h
  refine r_aload_n (x := 111) dL_meeting_0 rfl ?_
  refine r_iconst (v := 0) dL_meeting_1 rfl ?_
  refine r_aload_n (x := 0) dL_meeting_2 rfl ?_
  refine r_iload_n (x := p1) dL_meeting_3 rfl ?_
  obtain ⟨x1, S2, h3, hx1, kx1⟩ := bH_e h
  refine r_callH (y := mX11_meeting) (As := [.int p1]) (rest := [.int 0, .ref 111]) (hN := 0) (hI := 12) (e0 := 9) (sl := 3) (len := 1) (L' := [some (.ref 0), some (.int p1), some (.ref 111), none]) rfl dL_meeting_4 qL_60 kX11_meeting rfl rfl (okX11_meeting N p1 S x1 S2 h3) (by decide) (by decide) rfl (Nat.le_of_ble_eq_true rfl) (Or.inr (Or.inl ⟨rfl, rfl⟩)) (by decide) (fun h9 => absurd rfl h9) (fun _ => Or.inl ⟨3, rfl, rfl, dL_meeting_12⟩) (Nat.le_of_ble_eq_true rfl) rfl rfl (fun x4 ex1 => ?_) (fun Ex1 ex1 => ?_)
  · replace h := hx1 x4 ex1
    refine r_i2l dL_meeting_7 ?_
    refine r_lastore (a := 111) (k9 := 0) dL_meeting_8 ck111 nC111 ⟨by decide, by decide⟩ ?_
    refine r_topS (fun S5 hS5 => ?_)
    replace h := lt_e hS5 h
    refine r_goto (tgt := 15) dL_meeting_9 (by decide) ?_
    refine r_iconst (v := 0) dL_meeting_15 rfl ?_
    cases h
    exact r_ireturn dL_meeting_16 rfl (by decide) ⟨rfl, rfl⟩
  · rcases kx1 Ex1 ex1 with ⟨rfl, h⟩ | ⟨rfl, h⟩
    · cases h
    · refine Or.inr ⟨rfl, by decide, ?_⟩
      refine r_iconst (v := 1) dL_meeting_13 rfl ?_
      cases h
      exact r_ireturn dL_meeting_14 rfl (by decide) ⟨rfl, rfl⟩
def fL_flow (N : Nat) (p1 : Int32) (p2 : Int32) (S : PS) : Option (Int32 × PS) :=
  bH (fX11_flow N p1 p2 S) (fun x4 S2 =>
    lt ((S2.1, u2L S2.2.1 111 0 x4.toInt64, S2.2.2) : PS) fun S5 =>
    some (0, S5)) (fun S2 => some (1, S2)) (fun S2 => some (2, S2))
set_option maxHeartbeats 4000000 in
set_option maxRecDepth 100000 in
theorem okL_flow (N : Nat) (p1 : Int32) (p2 : Int32) (S : PS) (r : Int32) (T : PS) (h : fL_flow N p1 p2 S = some (r, T)) : CTW [(0, 10, 13, 18), (0, 10, 17, 13)] mL_flow 8 8 [.ref 0, .int p1, .int p2, .ref 111] S (qI r T) := by
  refine ctw_of [some (.ref 0), some (.int p1), some (.int p2), some (.ref 111), none] rfl (fun _ => rfl) (fun _ => Nat.le_of_ble_eq_true rfl) ?_
  unfold fL_flow at h
  refine r_aload_n (x := 111) dL_flow_0 rfl ?_
  refine r_iconst (v := 0) dL_flow_1 rfl ?_
  refine r_aload_n (x := 0) dL_flow_2 rfl ?_
  refine r_iload_n (x := p1) dL_flow_3 rfl ?_
  refine r_iload_n (x := p2) dL_flow_4 rfl ?_
  obtain ⟨x1, S2, h3, hx1, kx1⟩ := bH_e h
  refine r_callH (y := mX11_flow) (As := [.int p1, .int p2]) (rest := [.int 0, .ref 111]) (hN := 13) (hI := 17) (e0 := 10) (sl := 4) (len := 2) (L' := [some (.ref 0), some (.int p1), some (.int p2), some (.ref 111), none]) rfl dL_flow_5 qL_63 kX11_flow rfl rfl (okX11_flow N p1 p2 S x1 S2 h3) (by decide) (by decide) rfl (Nat.le_of_ble_eq_true rfl) (Or.inr (Or.inr rfl)) (by decide) (fun _ => Or.inr ⟨rfl, dL_flow_13⟩) (fun _ => Or.inr ⟨rfl, dL_flow_17⟩) (Nat.le_of_ble_eq_true rfl) rfl rfl (fun x4 ex1 => ?_) (fun Ex1 ex1 => ?_)
  · replace h := hx1 x4 ex1
    refine r_i2l dL_flow_8 ?_
    refine r_lastore (a := 111) (k9 := 0) dL_flow_9 ck111 nC111 ⟨by decide, by decide⟩ ?_
    refine r_topS (fun S5 hS5 => ?_)
    replace h := lt_e hS5 h
    refine r_goto (tgt := 21) dL_flow_10 (by decide) ?_
    refine r_iconst (v := 0) dL_flow_21 rfl ?_
    cases h
    exact r_ireturn dL_flow_22 rfl (by decide) ⟨rfl, rfl⟩
  · rcases kx1 Ex1 ex1 with ⟨rfl, h⟩ | ⟨rfl, h⟩
    · refine Or.inl ⟨rfl, by decide, ?_⟩
      refine r_iconst (v := 1) dL_flow_15 rfl ?_
      cases h
      exact r_ireturn dL_flow_16 rfl (by decide) ⟨rfl, rfl⟩
    · refine Or.inr ⟨rfl, by decide, ?_⟩
      refine r_iconst (v := 2) dL_flow_19 rfl ?_
      cases h
      exact r_ireturn dL_flow_20 rfl (by decide) ⟨rfl, rfl⟩
def fL_tier (N : Nat) (p1 : Int32) (p2 : Int32) (S : PS) : Option (Int32 × PS) :=
  bH (fX11_tier N p1 p2 S) (fun x4 S2 =>
    lt ((S2.1, u2L S2.2.1 111 0 x4.toInt64, S2.2.2) : PS) fun S5 =>
    some (0, S5)) (fun S2 => some (1, S2)) (fun S2 => none)
set_option maxHeartbeats 4000000 in
set_option maxRecDepth 100000 in
theorem okL_tier (N : Nat) (p1 : Int32) (p2 : Int32) (S : PS) (r : Int32) (T : PS) (h : fL_tier N p1 p2 S = some (r, T)) : CTW [(0, 10, 13, 18)] mL_tier 8 8 [.ref 0, .int p1, .int p2, .ref 111] S (qI r T) := by
  refine ctw_of [some (.ref 0), some (.int p1), some (.int p2), some (.ref 111), none] rfl (fun _ => rfl) (fun _ => Nat.le_of_ble_eq_true rfl) ?_
  unfold fL_tier at h
  refine r_aload_n (x := 111) dL_tier_0 rfl ?_
  refine r_iconst (v := 0) dL_tier_1 rfl ?_
  refine r_aload_n (x := 0) dL_tier_2 rfl ?_
  refine r_iload_n (x := p1) dL_tier_3 rfl ?_
  refine r_iload_n (x := p2) dL_tier_4 rfl ?_
  obtain ⟨x1, S2, h3, hx1, kx1⟩ := bH_e h
  refine r_callH (y := mX11_tier) (As := [.int p1, .int p2]) (rest := [.int 0, .ref 111]) (hN := 13) (hI := 0) (e0 := 10) (sl := 4) (len := 2) (L' := [some (.ref 0), some (.int p1), some (.int p2), some (.ref 111), none]) rfl dL_tier_5 qL_66 kX11_tier rfl rfl (okX11_tier N p1 p2 S x1 S2 h3) (by decide) (by decide) rfl (Nat.le_of_ble_eq_true rfl) (Or.inl ⟨rfl, rfl⟩) (by decide) (fun _ => Or.inr ⟨rfl, dL_tier_13⟩) (fun h9 => absurd rfl h9) (Nat.le_of_ble_eq_true rfl) rfl rfl (fun x4 ex1 => ?_) (fun Ex1 ex1 => ?_)
  · replace h := hx1 x4 ex1
    refine r_i2l dL_tier_8 ?_
    refine r_lastore (a := 111) (k9 := 0) dL_tier_9 ck111 nC111 ⟨by decide, by decide⟩ ?_
    refine r_topS (fun S5 hS5 => ?_)
    replace h := lt_e hS5 h
    refine r_goto (tgt := 17) dL_tier_10 (by decide) ?_
    refine r_iconst (v := 0) dL_tier_17 rfl ?_
    cases h
    exact r_ireturn dL_tier_18 rfl (by decide) ⟨rfl, rfl⟩
  · rcases kx1 Ex1 ex1 with ⟨rfl, h⟩ | ⟨rfl, h⟩
    · refine Or.inl ⟨rfl, by decide, ?_⟩
      refine r_iconst (v := 1) dL_tier_15 rfl ?_
      cases h
      exact r_ireturn dL_tier_16 rfl (by decide) ⟨rfl, rfl⟩
    · cases h
def fL_toCrack (N : Nat) (p1 : Int32) (p2 : Int32) (p3 : Int32) (p4 : Int32) (S : PS) : Option (Int32 × PS) :=
  bH (fX11_toCrack N p1 p2 p3 p4 S) (fun x4 S2 =>
    lt ((S2.1, u2L S2.2.1 111 0 x4.toInt64, S2.2.2) : PS) fun S5 =>
    some (0, S5)) (fun S2 => some (1, S2)) (fun S2 => some (2, S2))
set_option maxHeartbeats 4000000 in
set_option maxRecDepth 100000 in
theorem okL_toCrack (N : Nat) (p1 : Int32) (p2 : Int32) (p3 : Int32) (p4 : Int32) (S : PS) (r : Int32) (T : PS) (h : fL_toCrack N p1 p2 p3 p4 S = some (r, T)) : CTW [(0, 14, 17, 18), (0, 14, 21, 13)] mL_toCrack 8 8 [.ref 0, .int p1, .int p2, .int p3, .int p4, .ref 111] S (qI r T) := by
  refine ctw_of [some (.ref 0), some (.int p1), some (.int p2), some (.int p3), some (.int p4), some (.ref 111), none] rfl (fun _ => rfl) (fun _ => Nat.le_of_ble_eq_true rfl) ?_
  unfold fL_toCrack at h
  refine r_aload (x := 111) dL_toCrack_0 rfl ?_
  refine r_iconst (v := 0) dL_toCrack_2 rfl ?_
  refine r_aload_n (x := 0) dL_toCrack_3 rfl ?_
  refine r_iload_n (x := p1) dL_toCrack_4 rfl ?_
  refine r_iload_n (x := p2) dL_toCrack_5 rfl ?_
  refine r_iload_n (x := p3) dL_toCrack_6 rfl ?_
  refine r_iload (x := p4) dL_toCrack_7 rfl ?_
  obtain ⟨x1, S2, h3, hx1, kx1⟩ := bH_e h
  refine r_callH (y := mX11_toCrack) (As := [.int p1, .int p2, .int p3, .int p4]) (rest := [.int 0, .ref 111]) (hN := 17) (hI := 21) (e0 := 14) (sl := 6) (len := 2) (L' := [some (.ref 0), some (.int p1), some (.int p2), some (.int p3), some (.int p4), some (.ref 111), none]) rfl dL_toCrack_9 qL_69 kX11_toCrack rfl rfl (okX11_toCrack N p1 p2 p3 p4 S x1 S2 h3) (by decide) (by decide) rfl (Nat.le_of_ble_eq_true rfl) (Or.inr (Or.inr rfl)) (by decide) (fun _ => Or.inr ⟨rfl, dL_toCrack_17⟩) (fun _ => Or.inr ⟨rfl, dL_toCrack_21⟩) (Nat.le_of_ble_eq_true rfl) rfl rfl (fun x4 ex1 => ?_) (fun Ex1 ex1 => ?_)
  · replace h := hx1 x4 ex1
    refine r_i2l dL_toCrack_12 ?_
    refine r_lastore (a := 111) (k9 := 0) dL_toCrack_13 ck111 nC111 ⟨by decide, by decide⟩ ?_
    refine r_topS (fun S5 hS5 => ?_)
    replace h := lt_e hS5 h
    refine r_goto (tgt := 25) dL_toCrack_14 (by decide) ?_
    refine r_iconst (v := 0) dL_toCrack_25 rfl ?_
    cases h
    exact r_ireturn dL_toCrack_26 rfl (by decide) ⟨rfl, rfl⟩
  · rcases kx1 Ex1 ex1 with ⟨rfl, h⟩ | ⟨rfl, h⟩
    · refine Or.inl ⟨rfl, by decide, ?_⟩
      refine r_iconst (v := 1) dL_toCrack_19 rfl ?_
      cases h
      exact r_ireturn dL_toCrack_20 rfl (by decide) ⟨rfl, rfl⟩
    · refine Or.inr ⟨rfl, by decide, ?_⟩
      refine r_iconst (v := 2) dL_toCrack_23 rfl ?_
      cases h
      exact r_ireturn dL_toCrack_24 rfl (by decide) ⟨rfl, rfl⟩
def fL_office (N : Nat) (p1 : Int32) (p2 : Int32) (S : PS) : Option (Int32 × PS) :=
  bH (fX11_office N p1 p2 S) (fun x4 S2 =>
    lt ((S2.1, u2L S2.2.1 111 0 x4.toInt64, S2.2.2) : PS) fun S5 =>
    some (0, S5)) (fun S2 => some (1, S2)) (fun S2 => some (2, S2))
set_option maxHeartbeats 4000000 in
set_option maxRecDepth 100000 in
theorem okL_office (N : Nat) (p1 : Int32) (p2 : Int32) (S : PS) (r : Int32) (T : PS) (h : fL_office N p1 p2 S = some (r, T)) : CTW [(0, 10, 13, 18), (0, 10, 17, 13)] mL_office 8 8 [.ref 0, .int p1, .int p2, .ref 111] S (qI r T) := by
  refine ctw_of [some (.ref 0), some (.int p1), some (.int p2), some (.ref 111), none] rfl (fun _ => rfl) (fun _ => Nat.le_of_ble_eq_true rfl) ?_
  unfold fL_office at h
  refine r_aload_n (x := 111) dL_office_0 rfl ?_
  refine r_iconst (v := 0) dL_office_1 rfl ?_
  refine r_aload_n (x := 0) dL_office_2 rfl ?_
  refine r_iload_n (x := p1) dL_office_3 rfl ?_
  refine r_iload_n (x := p2) dL_office_4 rfl ?_
  obtain ⟨x1, S2, h3, hx1, kx1⟩ := bH_e h
  refine r_callH (y := mX11_office) (As := [.int p1, .int p2]) (rest := [.int 0, .ref 111]) (hN := 13) (hI := 17) (e0 := 10) (sl := 4) (len := 2) (L' := [some (.ref 0), some (.int p1), some (.int p2), some (.ref 111), none]) rfl dL_office_5 qL_73 kX11_office rfl rfl (okX11_office N p1 p2 S x1 S2 h3) (by decide) (by decide) rfl (Nat.le_of_ble_eq_true rfl) (Or.inr (Or.inr rfl)) (by decide) (fun _ => Or.inr ⟨rfl, dL_office_13⟩) (fun _ => Or.inr ⟨rfl, dL_office_17⟩) (Nat.le_of_ble_eq_true rfl) rfl rfl (fun x4 ex1 => ?_) (fun Ex1 ex1 => ?_)
  · replace h := hx1 x4 ex1
    refine r_i2l dL_office_8 ?_
    refine r_lastore (a := 111) (k9 := 0) dL_office_9 ck111 nC111 ⟨by decide, by decide⟩ ?_
    refine r_topS (fun S5 hS5 => ?_)
    replace h := lt_e hS5 h
    refine r_goto (tgt := 21) dL_office_10 (by decide) ?_
    refine r_iconst (v := 0) dL_office_21 rfl ?_
    cases h
    exact r_ireturn dL_office_22 rfl (by decide) ⟨rfl, rfl⟩
  · rcases kx1 Ex1 ex1 with ⟨rfl, h⟩ | ⟨rfl, h⟩
    · refine Or.inl ⟨rfl, by decide, ?_⟩
      refine r_iconst (v := 1) dL_office_15 rfl ?_
      cases h
      exact r_ireturn dL_office_16 rfl (by decide) ⟨rfl, rfl⟩
    · refine Or.inr ⟨rfl, by decide, ?_⟩
      refine r_iconst (v := 2) dL_office_19 rfl ?_
      cases h
      exact r_ireturn dL_office_20 rfl (by decide) ⟨rfl, rfl⟩
def fL_hear (N : Nat) (p1 : Int32) (p2 : Int32) (p3 : Int32) (S : PS) : Option (Int32 × PS) :=
  bH (fX11_hear N p1 p2 p3 S) (fun x4 S2 =>
    lt ((S2.1, u2L S2.2.1 111 0 x4.toInt64, S2.2.2) : PS) fun S5 =>
    some (0, S5)) (fun S2 => some (1, S2)) (fun S2 => none)
set_option maxHeartbeats 4000000 in
set_option maxRecDepth 100000 in
theorem okL_hear (N : Nat) (p1 : Int32) (p2 : Int32) (p3 : Int32) (S : PS) (r : Int32) (T : PS) (h : fL_hear N p1 p2 p3 S = some (r, T)) : CTW [(0, 12, 15, 18)] mL_hear 8 8 [.ref 0, .int p1, .int p2, .int p3, .ref 111] S (qI r T) := by
  refine ctw_of [some (.ref 0), some (.int p1), some (.int p2), some (.int p3), some (.ref 111), none] rfl (fun _ => rfl) (fun _ => Nat.le_of_ble_eq_true rfl) ?_
  unfold fL_hear at h
  refine r_aload (x := 111) dL_hear_0 rfl ?_
  refine r_iconst (v := 0) dL_hear_2 rfl ?_
  refine r_aload_n (x := 0) dL_hear_3 rfl ?_
  refine r_iload_n (x := p1) dL_hear_4 rfl ?_
  refine r_iload_n (x := p2) dL_hear_5 rfl ?_
  refine r_iload_n (x := p3) dL_hear_6 rfl ?_
  obtain ⟨x1, S2, h3, hx1, kx1⟩ := bH_e h
  refine r_callH (y := mX11_hear) (As := [.int p1, .int p2, .int p3]) (rest := [.int 0, .ref 111]) (hN := 15) (hI := 0) (e0 := 12) (sl := 5) (len := 2) (L' := [some (.ref 0), some (.int p1), some (.int p2), some (.int p3), some (.ref 111), none]) rfl dL_hear_7 qL_76 kX11_hear rfl rfl (okX11_hear N p1 p2 p3 S x1 S2 h3) (by decide) (by decide) rfl (Nat.le_of_ble_eq_true rfl) (Or.inl ⟨rfl, rfl⟩) (by decide) (fun _ => Or.inr ⟨rfl, dL_hear_15⟩) (fun h9 => absurd rfl h9) (Nat.le_of_ble_eq_true rfl) rfl rfl (fun x4 ex1 => ?_) (fun Ex1 ex1 => ?_)
  · replace h := hx1 x4 ex1
    refine r_i2l dL_hear_10 ?_
    refine r_lastore (a := 111) (k9 := 0) dL_hear_11 ck111 nC111 ⟨by decide, by decide⟩ ?_
    refine r_topS (fun S5 hS5 => ?_)
    replace h := lt_e hS5 h
    refine r_goto (tgt := 19) dL_hear_12 (by decide) ?_
    refine r_iconst (v := 0) dL_hear_19 rfl ?_
    cases h
    exact r_ireturn dL_hear_20 rfl (by decide) ⟨rfl, rfl⟩
  · rcases kx1 Ex1 ex1 with ⟨rfl, h⟩ | ⟨rfl, h⟩
    · refine Or.inl ⟨rfl, by decide, ?_⟩
      refine r_iconst (v := 1) dL_hear_17 rfl ?_
      cases h
      exact r_ireturn dL_hear_18 rfl (by decide) ⟨rfl, rfl⟩
    · cases h
def fL_led (N : Nat) (p1 : Int32) (S : PS) : Option (Int32 × PS) :=
  bH (fX11_led N p1 S) (fun x4 S2 =>
    lt ((S2.1, u2L S2.2.1 111 0 x4.toInt64, S2.2.2) : PS) fun S5 =>
    some (0, S5)) (fun S2 => some (1, S2)) (fun S2 => none)
set_option maxHeartbeats 4000000 in
set_option maxRecDepth 100000 in
theorem okL_led (N : Nat) (p1 : Int32) (S : PS) (r : Int32) (T : PS) (h : fL_led N p1 S = some (r, T)) : CTW [(0, 9, 12, 18)] mL_led 8 8 [.ref 0, .int p1, .ref 111] S (qI r T) := by
  refine ctw_of [some (.ref 0), some (.int p1), some (.ref 111), none] rfl (fun _ => rfl) (fun _ => Nat.le_of_ble_eq_true rfl) ?_
  unfold fL_led at h
  refine r_aload_n (x := 111) dL_led_0 rfl ?_
  refine r_iconst (v := 0) dL_led_1 rfl ?_
  refine r_aload_n (x := 0) dL_led_2 rfl ?_
  refine r_iload_n (x := p1) dL_led_3 rfl ?_
  obtain ⟨x1, S2, h3, hx1, kx1⟩ := bH_e h
  refine r_callH (y := mX11_led) (As := [.int p1]) (rest := [.int 0, .ref 111]) (hN := 12) (hI := 0) (e0 := 9) (sl := 3) (len := 1) (L' := [some (.ref 0), some (.int p1), some (.ref 111), none]) rfl dL_led_4 qL_80 kX11_led rfl rfl (okX11_led N p1 S x1 S2 h3) (by decide) (by decide) rfl (Nat.le_of_ble_eq_true rfl) (Or.inl ⟨rfl, rfl⟩) (by decide) (fun _ => Or.inl ⟨3, rfl, rfl, dL_led_12⟩) (fun h9 => absurd rfl h9) (Nat.le_of_ble_eq_true rfl) rfl rfl (fun x4 ex1 => ?_) (fun Ex1 ex1 => ?_)
  · replace h := hx1 x4 ex1
    refine r_i2l dL_led_7 ?_
    refine r_lastore (a := 111) (k9 := 0) dL_led_8 ck111 nC111 ⟨by decide, by decide⟩ ?_
    refine r_topS (fun S5 hS5 => ?_)
    replace h := lt_e hS5 h
    refine r_goto (tgt := 15) dL_led_9 (by decide) ?_
    refine r_iconst (v := 0) dL_led_15 rfl ?_
    cases h
    exact r_ireturn dL_led_16 rfl (by decide) ⟨rfl, rfl⟩
  · rcases kx1 Ex1 ex1 with ⟨rfl, h⟩ | ⟨rfl, h⟩
    · refine Or.inl ⟨rfl, by decide, ?_⟩
      refine r_iconst (v := 1) dL_led_13 rfl ?_
      cases h
      exact r_ireturn dL_led_14 rfl (by decide) ⟨rfl, rfl⟩
    · cases h
def fL_listen (N : Nat) (p1 : Int32) (S : PS) : Option (Int32 × PS) :=
  bH (fX11_listen N p1 S) (fun x4 S2 =>
    lt ((S2.1, u2L S2.2.1 111 0 x4.toInt64, S2.2.2) : PS) fun S5 =>
    some (0, S5)) (fun S2 => some (1, S2)) (fun S2 => none)
set_option maxHeartbeats 4000000 in
set_option maxRecDepth 100000 in
theorem okL_listen (N : Nat) (p1 : Int32) (S : PS) (r : Int32) (T : PS) (h : fL_listen N p1 S = some (r, T)) : CTW [(0, 9, 12, 18)] mL_listen 8 8 [.ref 0, .int p1, .ref 111] S (qI r T) := by
  refine ctw_of [some (.ref 0), some (.int p1), some (.ref 111), none] rfl (fun _ => rfl) (fun _ => Nat.le_of_ble_eq_true rfl) ?_
  unfold fL_listen at h
  refine r_aload_n (x := 111) dL_listen_0 rfl ?_
  refine r_iconst (v := 0) dL_listen_1 rfl ?_
  refine r_aload_n (x := 0) dL_listen_2 rfl ?_
  refine r_iload_n (x := p1) dL_listen_3 rfl ?_
  obtain ⟨x1, S2, h3, hx1, kx1⟩ := bH_e h
  refine r_callH (y := mX11_listen) (As := [.int p1]) (rest := [.int 0, .ref 111]) (hN := 12) (hI := 0) (e0 := 9) (sl := 3) (len := 1) (L' := [some (.ref 0), some (.int p1), some (.ref 111), none]) rfl dL_listen_4 qL_83 kX11_listen rfl rfl (okX11_listen N p1 S x1 S2 h3) (by decide) (by decide) rfl (Nat.le_of_ble_eq_true rfl) (Or.inl ⟨rfl, rfl⟩) (by decide) (fun _ => Or.inl ⟨3, rfl, rfl, dL_listen_12⟩) (fun h9 => absurd rfl h9) (Nat.le_of_ble_eq_true rfl) rfl rfl (fun x4 ex1 => ?_) (fun Ex1 ex1 => ?_)
  · replace h := hx1 x4 ex1
    refine r_i2l dL_listen_7 ?_
    refine r_lastore (a := 111) (k9 := 0) dL_listen_8 ck111 nC111 ⟨by decide, by decide⟩ ?_
    refine r_topS (fun S5 hS5 => ?_)
    replace h := lt_e hS5 h
    refine r_goto (tgt := 15) dL_listen_9 (by decide) ?_
    refine r_iconst (v := 0) dL_listen_15 rfl ?_
    cases h
    exact r_ireturn dL_listen_16 rfl (by decide) ⟨rfl, rfl⟩
  · rcases kx1 Ex1 ex1 with ⟨rfl, h⟩ | ⟨rfl, h⟩
    · refine Or.inl ⟨rfl, by decide, ?_⟩
      refine r_iconst (v := 1) dL_listen_13 rfl ?_
      cases h
      exact r_ireturn dL_listen_14 rfl (by decide) ⟨rfl, rfl⟩
    · cases h
def fL_cold (N : Nat) (p1 : Int32) (p2 : Int32) (p3 : Int32) (S : PS) : Option (Int32 × PS) :=
  bH (fX11_cold N p1 p2 p3 S) (fun x4 S2 =>
    lt ((S2.1, u2L S2.2.1 111 0 x4.toInt64, S2.2.2) : PS) fun S5 =>
    some (0, S5)) (fun S2 => some (1, S2)) (fun S2 => some (2, S2))
set_option maxHeartbeats 4000000 in
set_option maxRecDepth 100000 in
theorem okL_cold (N : Nat) (p1 : Int32) (p2 : Int32) (p3 : Int32) (S : PS) (r : Int32) (T : PS) (h : fL_cold N p1 p2 p3 S = some (r, T)) : CTW [(0, 12, 15, 18), (0, 12, 19, 13)] mL_cold 8 8 [.ref 0, .int p1, .int p2, .int p3, .ref 111] S (qI r T) := by
  refine ctw_of [some (.ref 0), some (.int p1), some (.int p2), some (.int p3), some (.ref 111), none] rfl (fun _ => rfl) (fun _ => Nat.le_of_ble_eq_true rfl) ?_
  unfold fL_cold at h
  refine r_aload (x := 111) dL_cold_0 rfl ?_
  refine r_iconst (v := 0) dL_cold_2 rfl ?_
  refine r_aload_n (x := 0) dL_cold_3 rfl ?_
  refine r_iload_n (x := p1) dL_cold_4 rfl ?_
  refine r_iload_n (x := p2) dL_cold_5 rfl ?_
  refine r_iload_n (x := p3) dL_cold_6 rfl ?_
  obtain ⟨x1, S2, h3, hx1, kx1⟩ := bH_e h
  refine r_callH (y := mX11_cold) (As := [.int p1, .int p2, .int p3]) (rest := [.int 0, .ref 111]) (hN := 15) (hI := 19) (e0 := 12) (sl := 5) (len := 2) (L' := [some (.ref 0), some (.int p1), some (.int p2), some (.int p3), some (.ref 111), none]) rfl dL_cold_7 qL_86 kX11_cold rfl rfl (okX11_cold N p1 p2 p3 S x1 S2 h3) (by decide) (by decide) rfl (Nat.le_of_ble_eq_true rfl) (Or.inr (Or.inr rfl)) (by decide) (fun _ => Or.inr ⟨rfl, dL_cold_15⟩) (fun _ => Or.inr ⟨rfl, dL_cold_19⟩) (Nat.le_of_ble_eq_true rfl) rfl rfl (fun x4 ex1 => ?_) (fun Ex1 ex1 => ?_)
  · replace h := hx1 x4 ex1
    refine r_i2l dL_cold_10 ?_
    refine r_lastore (a := 111) (k9 := 0) dL_cold_11 ck111 nC111 ⟨by decide, by decide⟩ ?_
    refine r_topS (fun S5 hS5 => ?_)
    replace h := lt_e hS5 h
    refine r_goto (tgt := 23) dL_cold_12 (by decide) ?_
    refine r_iconst (v := 0) dL_cold_23 rfl ?_
    cases h
    exact r_ireturn dL_cold_24 rfl (by decide) ⟨rfl, rfl⟩
  · rcases kx1 Ex1 ex1 with ⟨rfl, h⟩ | ⟨rfl, h⟩
    · refine Or.inl ⟨rfl, by decide, ?_⟩
      refine r_iconst (v := 1) dL_cold_17 rfl ?_
      cases h
      exact r_ireturn dL_cold_18 rfl (by decide) ⟨rfl, rfl⟩
    · refine Or.inr ⟨rfl, by decide, ?_⟩
      refine r_iconst (v := 2) dL_cold_21 rfl ?_
      cases h
      exact r_ireturn dL_cold_22 rfl (by decide) ⟨rfl, rfl⟩
def fL_game (N : Nat) (p1 : Int32) (p2 : Int32) (p3 : Int32) (S : PS) : Option (Int32 × PS) :=
  bH (fX11_game N p1 p2 p3 S) (fun x4 S2 =>
    lt ((S2.1, u2L S2.2.1 111 0 x4.toInt64, S2.2.2) : PS) fun S5 =>
    some (0, S5)) (fun S2 => some (1, S2)) (fun S2 => some (2, S2))
set_option maxHeartbeats 4000000 in
set_option maxRecDepth 100000 in
theorem okL_game (N : Nat) (p1 : Int32) (p2 : Int32) (p3 : Int32) (S : PS) (r : Int32) (T : PS) (h : fL_game N p1 p2 p3 S = some (r, T)) : CTW [(0, 12, 15, 18), (0, 12, 19, 13)] mL_game 8 8 [.ref 0, .int p1, .int p2, .int p3, .ref 111] S (qI r T) := by
  refine ctw_of [some (.ref 0), some (.int p1), some (.int p2), some (.int p3), some (.ref 111), none] rfl (fun _ => rfl) (fun _ => Nat.le_of_ble_eq_true rfl) ?_
  unfold fL_game at h
  refine r_aload (x := 111) dL_game_0 rfl ?_
  refine r_iconst (v := 0) dL_game_2 rfl ?_
  refine r_aload_n (x := 0) dL_game_3 rfl ?_
  refine r_iload_n (x := p1) dL_game_4 rfl ?_
  refine r_iload_n (x := p2) dL_game_5 rfl ?_
  refine r_iload_n (x := p3) dL_game_6 rfl ?_
  obtain ⟨x1, S2, h3, hx1, kx1⟩ := bH_e h
  refine r_callH (y := mX11_game) (As := [.int p1, .int p2, .int p3]) (rest := [.int 0, .ref 111]) (hN := 15) (hI := 19) (e0 := 12) (sl := 5) (len := 2) (L' := [some (.ref 0), some (.int p1), some (.int p2), some (.int p3), some (.ref 111), none]) rfl dL_game_7 qL_89 kX11_game rfl rfl (okX11_game N p1 p2 p3 S x1 S2 h3) (by decide) (by decide) rfl (Nat.le_of_ble_eq_true rfl) (Or.inr (Or.inr rfl)) (by decide) (fun _ => Or.inr ⟨rfl, dL_game_15⟩) (fun _ => Or.inr ⟨rfl, dL_game_19⟩) (Nat.le_of_ble_eq_true rfl) rfl rfl (fun x4 ex1 => ?_) (fun Ex1 ex1 => ?_)
  · replace h := hx1 x4 ex1
    refine r_i2l dL_game_10 ?_
    refine r_lastore (a := 111) (k9 := 0) dL_game_11 ck111 nC111 ⟨by decide, by decide⟩ ?_
    refine r_topS (fun S5 hS5 => ?_)
    replace h := lt_e hS5 h
    refine r_goto (tgt := 23) dL_game_12 (by decide) ?_
    refine r_iconst (v := 0) dL_game_23 rfl ?_
    cases h
    exact r_ireturn dL_game_24 rfl (by decide) ⟨rfl, rfl⟩
  · rcases kx1 Ex1 ex1 with ⟨rfl, h⟩ | ⟨rfl, h⟩
    · refine Or.inl ⟨rfl, by decide, ?_⟩
      refine r_iconst (v := 1) dL_game_17 rfl ?_
      cases h
      exact r_ireturn dL_game_18 rfl (by decide) ⟨rfl, rfl⟩
    · refine Or.inr ⟨rfl, by decide, ?_⟩
      refine r_iconst (v := 2) dL_game_21 rfl ?_
      cases h
      exact r_ireturn dL_game_22 rfl (by decide) ⟨rfl, rfl⟩
def fL_years (N : Nat) (p1 : Int32) (p2 : Int32) (p3 : Int32) (S : PS) : Option (Int32 × PS) :=
  bH (fX11_years N p1 p2 p3 S) (fun x4 S2 =>
    lt ((S2.1, u2L S2.2.1 111 0 x4.toInt64, S2.2.2) : PS) fun S5 =>
    some (0, S5)) (fun S2 => some (1, S2)) (fun S2 => some (2, S2))
set_option maxHeartbeats 4000000 in
set_option maxRecDepth 100000 in
theorem okL_years (N : Nat) (p1 : Int32) (p2 : Int32) (p3 : Int32) (S : PS) (r : Int32) (T : PS) (h : fL_years N p1 p2 p3 S = some (r, T)) : CTW [(0, 12, 15, 18), (0, 12, 19, 13)] mL_years 8 8 [.ref 0, .int p1, .int p2, .int p3, .ref 111] S (qI r T) := by
  refine ctw_of [some (.ref 0), some (.int p1), some (.int p2), some (.int p3), some (.ref 111), none] rfl (fun _ => rfl) (fun _ => Nat.le_of_ble_eq_true rfl) ?_
  unfold fL_years at h
  refine r_aload (x := 111) dL_years_0 rfl ?_
  refine r_iconst (v := 0) dL_years_2 rfl ?_
  refine r_aload_n (x := 0) dL_years_3 rfl ?_
  refine r_iload_n (x := p1) dL_years_4 rfl ?_
  refine r_iload_n (x := p2) dL_years_5 rfl ?_
  refine r_iload_n (x := p3) dL_years_6 rfl ?_
  obtain ⟨x1, S2, h3, hx1, kx1⟩ := bH_e h
  refine r_callH (y := mX11_years) (As := [.int p1, .int p2, .int p3]) (rest := [.int 0, .ref 111]) (hN := 15) (hI := 19) (e0 := 12) (sl := 5) (len := 2) (L' := [some (.ref 0), some (.int p1), some (.int p2), some (.int p3), some (.ref 111), none]) rfl dL_years_7 qL_92 kX11_years rfl rfl (okX11_years N p1 p2 p3 S x1 S2 h3) (by decide) (by decide) rfl (Nat.le_of_ble_eq_true rfl) (Or.inr (Or.inr rfl)) (by decide) (fun _ => Or.inr ⟨rfl, dL_years_15⟩) (fun _ => Or.inr ⟨rfl, dL_years_19⟩) (Nat.le_of_ble_eq_true rfl) rfl rfl (fun x4 ex1 => ?_) (fun Ex1 ex1 => ?_)
  · replace h := hx1 x4 ex1
    refine r_i2l dL_years_10 ?_
    refine r_lastore (a := 111) (k9 := 0) dL_years_11 ck111 nC111 ⟨by decide, by decide⟩ ?_
    refine r_topS (fun S5 hS5 => ?_)
    replace h := lt_e hS5 h
    refine r_goto (tgt := 23) dL_years_12 (by decide) ?_
    refine r_iconst (v := 0) dL_years_23 rfl ?_
    cases h
    exact r_ireturn dL_years_24 rfl (by decide) ⟨rfl, rfl⟩
  · rcases kx1 Ex1 ex1 with ⟨rfl, h⟩ | ⟨rfl, h⟩
    · refine Or.inl ⟨rfl, by decide, ?_⟩
      refine r_iconst (v := 1) dL_years_17 rfl ?_
      cases h
      exact r_ireturn dL_years_18 rfl (by decide) ⟨rfl, rfl⟩
    · refine Or.inr ⟨rfl, by decide, ?_⟩
      refine r_iconst (v := 2) dL_years_21 rfl ?_
      cases h
      exact r_ireturn dL_years_22 rfl (by decide) ⟨rfl, rfl⟩
def fL_later (N : Nat) (p1 : Int32) (p2 : Int32) (S : PS) : Option (Int32 × PS) :=
  bH (fX11_later N p1 p2 S) (fun x4 S2 =>
    lt ((S2.1, u2L S2.2.1 111 0 x4.toInt64, S2.2.2) : PS) fun S5 =>
    some (0, S5)) (fun S2 => some (1, S2)) (fun S2 => some (2, S2))
set_option maxHeartbeats 4000000 in
set_option maxRecDepth 100000 in
theorem okL_later (N : Nat) (p1 : Int32) (p2 : Int32) (S : PS) (r : Int32) (T : PS) (h : fL_later N p1 p2 S = some (r, T)) : CTW [(0, 10, 13, 18), (0, 10, 17, 13)] mL_later 8 8 [.ref 0, .int p1, .int p2, .ref 111] S (qI r T) := by
  refine ctw_of [some (.ref 0), some (.int p1), some (.int p2), some (.ref 111), none] rfl (fun _ => rfl) (fun _ => Nat.le_of_ble_eq_true rfl) ?_
  unfold fL_later at h
  refine r_aload_n (x := 111) dL_later_0 rfl ?_
  refine r_iconst (v := 0) dL_later_1 rfl ?_
  refine r_aload_n (x := 0) dL_later_2 rfl ?_
  refine r_iload_n (x := p1) dL_later_3 rfl ?_
  refine r_iload_n (x := p2) dL_later_4 rfl ?_
  obtain ⟨x1, S2, h3, hx1, kx1⟩ := bH_e h
  refine r_callH (y := mX11_later) (As := [.int p1, .int p2]) (rest := [.int 0, .ref 111]) (hN := 13) (hI := 17) (e0 := 10) (sl := 4) (len := 2) (L' := [some (.ref 0), some (.int p1), some (.int p2), some (.ref 111), none]) rfl dL_later_5 qL_95 kX11_later rfl rfl (okX11_later N p1 p2 S x1 S2 h3) (by decide) (by decide) rfl (Nat.le_of_ble_eq_true rfl) (Or.inr (Or.inr rfl)) (by decide) (fun _ => Or.inr ⟨rfl, dL_later_13⟩) (fun _ => Or.inr ⟨rfl, dL_later_17⟩) (Nat.le_of_ble_eq_true rfl) rfl rfl (fun x4 ex1 => ?_) (fun Ex1 ex1 => ?_)
  · replace h := hx1 x4 ex1
    refine r_i2l dL_later_8 ?_
    refine r_lastore (a := 111) (k9 := 0) dL_later_9 ck111 nC111 ⟨by decide, by decide⟩ ?_
    refine r_topS (fun S5 hS5 => ?_)
    replace h := lt_e hS5 h
    refine r_goto (tgt := 21) dL_later_10 (by decide) ?_
    refine r_iconst (v := 0) dL_later_21 rfl ?_
    cases h
    exact r_ireturn dL_later_22 rfl (by decide) ⟨rfl, rfl⟩
  · rcases kx1 Ex1 ex1 with ⟨rfl, h⟩ | ⟨rfl, h⟩
    · refine Or.inl ⟨rfl, by decide, ?_⟩
      refine r_iconst (v := 1) dL_later_15 rfl ?_
      cases h
      exact r_ireturn dL_later_16 rfl (by decide) ⟨rfl, rfl⟩
    · refine Or.inr ⟨rfl, by decide, ?_⟩
      refine r_iconst (v := 2) dL_later_19 rfl ?_
      cases h
      exact r_ireturn dL_later_20 rfl (by decide) ⟨rfl, rfl⟩
def fL_oftenest (N : Nat) (p1 : Int32) (S : PS) : Option (Int32 × PS) :=
  bH (fX11_oftenest N p1 S) (fun x4 S2 =>
    lt ((S2.1, u2L S2.2.1 111 0 x4.toInt64, S2.2.2) : PS) fun S5 =>
    some (0, S5)) (fun S2 => none) (fun S2 => some (1, S2))
set_option maxHeartbeats 4000000 in
set_option maxRecDepth 100000 in
theorem okL_oftenest (N : Nat) (p1 : Int32) (S : PS) (r : Int32) (T : PS) (h : fL_oftenest N p1 S = some (r, T)) : CTW [(0, 9, 12, 13)] mL_oftenest 8 8 [.ref 0, .int p1, .ref 111] S (qI r T) := by
  refine ctw_of [some (.ref 0), some (.int p1), some (.ref 111), none] rfl (fun _ => rfl) (fun _ => Nat.le_of_ble_eq_true rfl) ?_
  unfold fL_oftenest at h
  refine r_aload_n (x := 111) dL_oftenest_0 rfl ?_
  refine r_iconst (v := 0) dL_oftenest_1 rfl ?_
  refine r_aload_n (x := 0) dL_oftenest_2 rfl ?_
  refine r_iload_n (x := p1) dL_oftenest_3 rfl ?_
  obtain ⟨x1, S2, h3, hx1, kx1⟩ := bH_e h
  refine r_callH (y := mX11_oftenest) (As := [.int p1]) (rest := [.int 0, .ref 111]) (hN := 0) (hI := 12) (e0 := 9) (sl := 3) (len := 1) (L' := [some (.ref 0), some (.int p1), some (.ref 111), none]) rfl dL_oftenest_4 qL_98 kX11_oftenest rfl rfl (okX11_oftenest N p1 S x1 S2 h3) (by decide) (by decide) rfl (Nat.le_of_ble_eq_true rfl) (Or.inr (Or.inl ⟨rfl, rfl⟩)) (by decide) (fun h9 => absurd rfl h9) (fun _ => Or.inl ⟨3, rfl, rfl, dL_oftenest_12⟩) (Nat.le_of_ble_eq_true rfl) rfl rfl (fun x4 ex1 => ?_) (fun Ex1 ex1 => ?_)
  · replace h := hx1 x4 ex1
    refine r_i2l dL_oftenest_7 ?_
    refine r_lastore (a := 111) (k9 := 0) dL_oftenest_8 ck111 nC111 ⟨by decide, by decide⟩ ?_
    refine r_topS (fun S5 hS5 => ?_)
    replace h := lt_e hS5 h
    refine r_goto (tgt := 15) dL_oftenest_9 (by decide) ?_
    refine r_iconst (v := 0) dL_oftenest_15 rfl ?_
    cases h
    exact r_ireturn dL_oftenest_16 rfl (by decide) ⟨rfl, rfl⟩
  · rcases kx1 Ex1 ex1 with ⟨rfl, h⟩ | ⟨rfl, h⟩
    · cases h
    · refine Or.inr ⟨rfl, by decide, ?_⟩
      refine r_iconst (v := 1) dL_oftenest_13 rfl ?_
      cases h
      exact r_ireturn dL_oftenest_14 rfl (by decide) ⟨rfl, rfl⟩
def fL_pause (N : Nat) (p1 : Int32) (S : PS) : Option (Int32 × PS) :=
  bH (fX11_pause N p1 S) (fun x4 S2 =>
    lt ((S2.1, u2L S2.2.1 111 0 x4.toInt64, S2.2.2) : PS) fun S5 =>
    some (0, S5)) (fun S2 => some (1, S2)) (fun S2 => none)
set_option maxHeartbeats 4000000 in
set_option maxRecDepth 100000 in
theorem okL_pause (N : Nat) (p1 : Int32) (S : PS) (r : Int32) (T : PS) (h : fL_pause N p1 S = some (r, T)) : CTW [(0, 9, 12, 18)] mL_pause 8 8 [.ref 0, .int p1, .ref 111] S (qI r T) := by
  refine ctw_of [some (.ref 0), some (.int p1), some (.ref 111), none] rfl (fun _ => rfl) (fun _ => Nat.le_of_ble_eq_true rfl) ?_
  unfold fL_pause at h
  refine r_aload_n (x := 111) dL_pause_0 rfl ?_
  refine r_iconst (v := 0) dL_pause_1 rfl ?_
  refine r_aload_n (x := 0) dL_pause_2 rfl ?_
  refine r_iload_n (x := p1) dL_pause_3 rfl ?_
  obtain ⟨x1, S2, h3, hx1, kx1⟩ := bH_e h
  refine r_callH (y := mX11_pause) (As := [.int p1]) (rest := [.int 0, .ref 111]) (hN := 12) (hI := 0) (e0 := 9) (sl := 3) (len := 1) (L' := [some (.ref 0), some (.int p1), some (.ref 111), none]) rfl dL_pause_4 qL_101 kX11_pause rfl rfl (okX11_pause N p1 S x1 S2 h3) (by decide) (by decide) rfl (Nat.le_of_ble_eq_true rfl) (Or.inl ⟨rfl, rfl⟩) (by decide) (fun _ => Or.inl ⟨3, rfl, rfl, dL_pause_12⟩) (fun h9 => absurd rfl h9) (Nat.le_of_ble_eq_true rfl) rfl rfl (fun x4 ex1 => ?_) (fun Ex1 ex1 => ?_)
  · replace h := hx1 x4 ex1
    refine r_i2l dL_pause_7 ?_
    refine r_lastore (a := 111) (k9 := 0) dL_pause_8 ck111 nC111 ⟨by decide, by decide⟩ ?_
    refine r_topS (fun S5 hS5 => ?_)
    replace h := lt_e hS5 h
    refine r_goto (tgt := 15) dL_pause_9 (by decide) ?_
    refine r_iconst (v := 0) dL_pause_15 rfl ?_
    cases h
    exact r_ireturn dL_pause_16 rfl (by decide) ⟨rfl, rfl⟩
  · rcases kx1 Ex1 ex1 with ⟨rfl, h⟩ | ⟨rfl, h⟩
    · refine Or.inl ⟨rfl, by decide, ?_⟩
      refine r_iconst (v := 1) dL_pause_13 rfl ?_
      cases h
      exact r_ireturn dL_pause_14 rfl (by decide) ⟨rfl, rfl⟩
    · cases h
def fL_giver (N : Nat) (p1 : Int32) (p2 : Int32) (S : PS) : Option (Int32 × PS) :=
  bH (fX11_giver N p1 p2 S) (fun x4 S2 =>
    lt ((S2.1, u2L S2.2.1 111 0 x4.toInt64, S2.2.2) : PS) fun S5 =>
    some (0, S5)) (fun S2 => some (1, S2)) (fun S2 => some (2, S2))
set_option maxHeartbeats 4000000 in
set_option maxRecDepth 100000 in
theorem okL_giver (N : Nat) (p1 : Int32) (p2 : Int32) (S : PS) (r : Int32) (T : PS) (h : fL_giver N p1 p2 S = some (r, T)) : CTW [(0, 10, 13, 18), (0, 10, 17, 13)] mL_giver 8 8 [.ref 0, .int p1, .int p2, .ref 111] S (qI r T) := by
  refine ctw_of [some (.ref 0), some (.int p1), some (.int p2), some (.ref 111), none] rfl (fun _ => rfl) (fun _ => Nat.le_of_ble_eq_true rfl) ?_
  unfold fL_giver at h
  refine r_aload_n (x := 111) dL_giver_0 rfl ?_
  refine r_iconst (v := 0) dL_giver_1 rfl ?_
  refine r_aload_n (x := 0) dL_giver_2 rfl ?_
  refine r_iload_n (x := p1) dL_giver_3 rfl ?_
  refine r_iload_n (x := p2) dL_giver_4 rfl ?_
  obtain ⟨x1, S2, h3, hx1, kx1⟩ := bH_e h
  refine r_callH (y := mX11_giver) (As := [.int p1, .int p2]) (rest := [.int 0, .ref 111]) (hN := 13) (hI := 17) (e0 := 10) (sl := 4) (len := 2) (L' := [some (.ref 0), some (.int p1), some (.int p2), some (.ref 111), none]) rfl dL_giver_5 qL_104 kX11_giver rfl rfl (okX11_giver N p1 p2 S x1 S2 h3) (by decide) (by decide) rfl (Nat.le_of_ble_eq_true rfl) (Or.inr (Or.inr rfl)) (by decide) (fun _ => Or.inr ⟨rfl, dL_giver_13⟩) (fun _ => Or.inr ⟨rfl, dL_giver_17⟩) (Nat.le_of_ble_eq_true rfl) rfl rfl (fun x4 ex1 => ?_) (fun Ex1 ex1 => ?_)
  · replace h := hx1 x4 ex1
    refine r_i2l dL_giver_8 ?_
    refine r_lastore (a := 111) (k9 := 0) dL_giver_9 ck111 nC111 ⟨by decide, by decide⟩ ?_
    refine r_topS (fun S5 hS5 => ?_)
    replace h := lt_e hS5 h
    refine r_goto (tgt := 21) dL_giver_10 (by decide) ?_
    refine r_iconst (v := 0) dL_giver_21 rfl ?_
    cases h
    exact r_ireturn dL_giver_22 rfl (by decide) ⟨rfl, rfl⟩
  · rcases kx1 Ex1 ex1 with ⟨rfl, h⟩ | ⟨rfl, h⟩
    · refine Or.inl ⟨rfl, by decide, ?_⟩
      refine r_iconst (v := 1) dL_giver_15 rfl ?_
      cases h
      exact r_ireturn dL_giver_16 rfl (by decide) ⟨rfl, rfl⟩
    · refine Or.inr ⟨rfl, by decide, ?_⟩
      refine r_iconst (v := 2) dL_giver_19 rfl ?_
      cases h
      exact r_ireturn dL_giver_20 rfl (by decide) ⟨rfl, rfl⟩
def fL_toPour (N : Nat) (p1 : Int32) (p2 : Int32) (S : PS) : Option (Int32 × PS) :=
  bH (fX11_toPour N p1 p2 S) (fun x4 S2 =>
    lt ((S2.1, u2L S2.2.1 111 0 x4.toInt64, S2.2.2) : PS) fun S5 =>
    some (0, S5)) (fun S2 => some (1, S2)) (fun S2 => some (2, S2))
set_option maxHeartbeats 4000000 in
set_option maxRecDepth 100000 in
theorem okL_toPour (N : Nat) (p1 : Int32) (p2 : Int32) (S : PS) (r : Int32) (T : PS) (h : fL_toPour N p1 p2 S = some (r, T)) : CTW [(0, 10, 13, 18), (0, 10, 17, 13)] mL_toPour 8 8 [.ref 0, .int p1, .int p2, .ref 111] S (qI r T) := by
  refine ctw_of [some (.ref 0), some (.int p1), some (.int p2), some (.ref 111), none] rfl (fun _ => rfl) (fun _ => Nat.le_of_ble_eq_true rfl) ?_
  unfold fL_toPour at h
  refine r_aload_n (x := 111) dL_toPour_0 rfl ?_
  refine r_iconst (v := 0) dL_toPour_1 rfl ?_
  refine r_aload_n (x := 0) dL_toPour_2 rfl ?_
  refine r_iload_n (x := p1) dL_toPour_3 rfl ?_
  refine r_iload_n (x := p2) dL_toPour_4 rfl ?_
  obtain ⟨x1, S2, h3, hx1, kx1⟩ := bH_e h
  refine r_callH (y := mX11_toPour) (As := [.int p1, .int p2]) (rest := [.int 0, .ref 111]) (hN := 13) (hI := 17) (e0 := 10) (sl := 4) (len := 2) (L' := [some (.ref 0), some (.int p1), some (.int p2), some (.ref 111), none]) rfl dL_toPour_5 qL_107 kX11_toPour rfl rfl (okX11_toPour N p1 p2 S x1 S2 h3) (by decide) (by decide) rfl (Nat.le_of_ble_eq_true rfl) (Or.inr (Or.inr rfl)) (by decide) (fun _ => Or.inr ⟨rfl, dL_toPour_13⟩) (fun _ => Or.inr ⟨rfl, dL_toPour_17⟩) (Nat.le_of_ble_eq_true rfl) rfl rfl (fun x4 ex1 => ?_) (fun Ex1 ex1 => ?_)
  · replace h := hx1 x4 ex1
    refine r_i2l dL_toPour_8 ?_
    refine r_lastore (a := 111) (k9 := 0) dL_toPour_9 ck111 nC111 ⟨by decide, by decide⟩ ?_
    refine r_topS (fun S5 hS5 => ?_)
    replace h := lt_e hS5 h
    refine r_goto (tgt := 21) dL_toPour_10 (by decide) ?_
    refine r_iconst (v := 0) dL_toPour_21 rfl ?_
    cases h
    exact r_ireturn dL_toPour_22 rfl (by decide) ⟨rfl, rfl⟩
  · rcases kx1 Ex1 ex1 with ⟨rfl, h⟩ | ⟨rfl, h⟩
    · refine Or.inl ⟨rfl, by decide, ?_⟩
      refine r_iconst (v := 1) dL_toPour_15 rfl ?_
      cases h
      exact r_ireturn dL_toPour_16 rfl (by decide) ⟨rfl, rfl⟩
    · refine Or.inr ⟨rfl, by decide, ?_⟩
      refine r_iconst (v := 2) dL_toPour_19 rfl ?_
      cases h
      exact r_ireturn dL_toPour_20 rfl (by decide) ⟨rfl, rfl⟩
def fL_ways (N : Nat) (p1 : Int32) (p2 : Int32) (S : PS) : Option (Int32 × PS) :=
  bH (fX11_ways N p1 p2 S) (fun x4 S2 =>
    lt ((S2.1, u2L S2.2.1 111 0 x4.toInt64, S2.2.2) : PS) fun S5 =>
    some (0, S5)) (fun S2 => some (1, S2)) (fun S2 => none)
set_option maxHeartbeats 4000000 in
set_option maxRecDepth 100000 in
theorem okL_ways (N : Nat) (p1 : Int32) (p2 : Int32) (S : PS) (r : Int32) (T : PS) (h : fL_ways N p1 p2 S = some (r, T)) : CTW [(0, 10, 13, 18)] mL_ways 8 8 [.ref 0, .int p1, .int p2, .ref 111] S (qI r T) := by
  refine ctw_of [some (.ref 0), some (.int p1), some (.int p2), some (.ref 111), none] rfl (fun _ => rfl) (fun _ => Nat.le_of_ble_eq_true rfl) ?_
  unfold fL_ways at h
  refine r_aload_n (x := 111) dL_ways_0 rfl ?_
  refine r_iconst (v := 0) dL_ways_1 rfl ?_
  refine r_aload_n (x := 0) dL_ways_2 rfl ?_
  refine r_iload_n (x := p1) dL_ways_3 rfl ?_
  refine r_iload_n (x := p2) dL_ways_4 rfl ?_
  obtain ⟨x1, S2, h3, hx1, kx1⟩ := bH_e h
  refine r_callH (y := mX11_ways) (As := [.int p1, .int p2]) (rest := [.int 0, .ref 111]) (hN := 13) (hI := 0) (e0 := 10) (sl := 4) (len := 2) (L' := [some (.ref 0), some (.int p1), some (.int p2), some (.ref 111), none]) rfl dL_ways_5 qL_110 kX11_ways rfl rfl (okX11_ways N p1 p2 S x1 S2 h3) (by decide) (by decide) rfl (Nat.le_of_ble_eq_true rfl) (Or.inl ⟨rfl, rfl⟩) (by decide) (fun _ => Or.inr ⟨rfl, dL_ways_13⟩) (fun h9 => absurd rfl h9) (Nat.le_of_ble_eq_true rfl) rfl rfl (fun x4 ex1 => ?_) (fun Ex1 ex1 => ?_)
  · replace h := hx1 x4 ex1
    refine r_i2l dL_ways_8 ?_
    refine r_lastore (a := 111) (k9 := 0) dL_ways_9 ck111 nC111 ⟨by decide, by decide⟩ ?_
    refine r_topS (fun S5 hS5 => ?_)
    replace h := lt_e hS5 h
    refine r_goto (tgt := 17) dL_ways_10 (by decide) ?_
    refine r_iconst (v := 0) dL_ways_17 rfl ?_
    cases h
    exact r_ireturn dL_ways_18 rfl (by decide) ⟨rfl, rfl⟩
  · rcases kx1 Ex1 ex1 with ⟨rfl, h⟩ | ⟨rfl, h⟩
    · refine Or.inl ⟨rfl, by decide, ?_⟩
      refine r_iconst (v := 1) dL_ways_15 rfl ?_
      cases h
      exact r_ireturn dL_ways_16 rfl (by decide) ⟨rfl, rfl⟩
    · cases h
def fL_chorus (N : Nat) (p1 : Int32) (p2 : Int32) (S : PS) : Option (Int32 × PS) :=
  bH (fX11_chorus N p1 p2 S) (fun x4 S2 =>
    lt ((S2.1, u2L S2.2.1 111 0 x4.toInt64, S2.2.2) : PS) fun S5 =>
    some (0, S5)) (fun S2 => none) (fun S2 => some (1, S2))
set_option maxHeartbeats 4000000 in
set_option maxRecDepth 100000 in
theorem okL_chorus (N : Nat) (p1 : Int32) (p2 : Int32) (S : PS) (r : Int32) (T : PS) (h : fL_chorus N p1 p2 S = some (r, T)) : CTW [(0, 10, 13, 13)] mL_chorus 8 8 [.ref 0, .int p1, .int p2, .ref 111] S (qI r T) := by
  refine ctw_of [some (.ref 0), some (.int p1), some (.int p2), some (.ref 111), none] rfl (fun _ => rfl) (fun _ => Nat.le_of_ble_eq_true rfl) ?_
  unfold fL_chorus at h
  refine r_aload_n (x := 111) dL_chorus_0 rfl ?_
  refine r_iconst (v := 0) dL_chorus_1 rfl ?_
  refine r_aload_n (x := 0) dL_chorus_2 rfl ?_
  refine r_iload_n (x := p1) dL_chorus_3 rfl ?_
  refine r_iload_n (x := p2) dL_chorus_4 rfl ?_
  obtain ⟨x1, S2, h3, hx1, kx1⟩ := bH_e h
  refine r_callH (y := mX11_chorus) (As := [.int p1, .int p2]) (rest := [.int 0, .ref 111]) (hN := 0) (hI := 13) (e0 := 10) (sl := 4) (len := 2) (L' := [some (.ref 0), some (.int p1), some (.int p2), some (.ref 111), none]) rfl dL_chorus_5 qL_113 kX11_chorus rfl rfl (okX11_chorus N p1 p2 S x1 S2 h3) (by decide) (by decide) rfl (Nat.le_of_ble_eq_true rfl) (Or.inr (Or.inl ⟨rfl, rfl⟩)) (by decide) (fun h9 => absurd rfl h9) (fun _ => Or.inr ⟨rfl, dL_chorus_13⟩) (Nat.le_of_ble_eq_true rfl) rfl rfl (fun x4 ex1 => ?_) (fun Ex1 ex1 => ?_)
  · replace h := hx1 x4 ex1
    refine r_i2l dL_chorus_8 ?_
    refine r_lastore (a := 111) (k9 := 0) dL_chorus_9 ck111 nC111 ⟨by decide, by decide⟩ ?_
    refine r_topS (fun S5 hS5 => ?_)
    replace h := lt_e hS5 h
    refine r_goto (tgt := 17) dL_chorus_10 (by decide) ?_
    refine r_iconst (v := 0) dL_chorus_17 rfl ?_
    cases h
    exact r_ireturn dL_chorus_18 rfl (by decide) ⟨rfl, rfl⟩
  · rcases kx1 Ex1 ex1 with ⟨rfl, h⟩ | ⟨rfl, h⟩
    · cases h
    · refine Or.inr ⟨rfl, by decide, ?_⟩
      refine r_iconst (v := 1) dL_chorus_15 rfl ?_
      cases h
      exact r_ireturn dL_chorus_16 rfl (by decide) ⟨rfl, rfl⟩
def fL_never (N : Nat) (p1 : Int32) (S : PS) : Option (Int32 × PS) :=
  bH (fX11_never N p1 S) (fun x4 S2 =>
    lt ((S2.1, u2L S2.2.1 111 0 x4.toInt64, S2.2.2) : PS) fun S5 =>
    some (0, S5)) (fun S2 => none) (fun S2 => some (1, S2))
set_option maxHeartbeats 4000000 in
set_option maxRecDepth 100000 in
theorem okL_never (N : Nat) (p1 : Int32) (S : PS) (r : Int32) (T : PS) (h : fL_never N p1 S = some (r, T)) : CTW [(0, 9, 12, 13)] mL_never 8 8 [.ref 0, .int p1, .ref 111] S (qI r T) := by
  refine ctw_of [some (.ref 0), some (.int p1), some (.ref 111), none] rfl (fun _ => rfl) (fun _ => Nat.le_of_ble_eq_true rfl) ?_
  unfold fL_never at h
  refine r_aload_n (x := 111) dL_never_0 rfl ?_
  refine r_iconst (v := 0) dL_never_1 rfl ?_
  refine r_aload_n (x := 0) dL_never_2 rfl ?_
  refine r_iload_n (x := p1) dL_never_3 rfl ?_
  obtain ⟨x1, S2, h3, hx1, kx1⟩ := bH_e h
  refine r_callH (y := mX11_never) (As := [.int p1]) (rest := [.int 0, .ref 111]) (hN := 0) (hI := 12) (e0 := 9) (sl := 3) (len := 1) (L' := [some (.ref 0), some (.int p1), some (.ref 111), none]) rfl dL_never_4 qL_116 kX11_never rfl rfl (okX11_never N p1 S x1 S2 h3) (by decide) (by decide) rfl (Nat.le_of_ble_eq_true rfl) (Or.inr (Or.inl ⟨rfl, rfl⟩)) (by decide) (fun h9 => absurd rfl h9) (fun _ => Or.inl ⟨3, rfl, rfl, dL_never_12⟩) (Nat.le_of_ble_eq_true rfl) rfl rfl (fun x4 ex1 => ?_) (fun Ex1 ex1 => ?_)
  · replace h := hx1 x4 ex1
    refine r_i2l dL_never_7 ?_
    refine r_lastore (a := 111) (k9 := 0) dL_never_8 ck111 nC111 ⟨by decide, by decide⟩ ?_
    refine r_topS (fun S5 hS5 => ?_)
    replace h := lt_e hS5 h
    refine r_goto (tgt := 15) dL_never_9 (by decide) ?_
    refine r_iconst (v := 0) dL_never_15 rfl ?_
    cases h
    exact r_ireturn dL_never_16 rfl (by decide) ⟨rfl, rfl⟩
  · rcases kx1 Ex1 ex1 with ⟨rfl, h⟩ | ⟨rfl, h⟩
    · cases h
    · refine Or.inr ⟨rfl, by decide, ?_⟩
      refine r_iconst (v := 1) dL_never_13 rfl ?_
      cases h
      exact r_ireturn dL_never_14 rfl (by decide) ⟨rfl, rfl⟩
def fL_swell (N : Nat) (p1 : Int32) (p2 : Int32) (S : PS) : Option (Int32 × PS) :=
  bH (fX11_swell N p1 p2 S) (fun x4 S2 =>
    lt ((S2.1, u2L S2.2.1 111 0 x4.toInt64, S2.2.2) : PS) fun S5 =>
    some (0, S5)) (fun S2 => some (1, S2)) (fun S2 => some (2, S2))
set_option maxHeartbeats 4000000 in
set_option maxRecDepth 100000 in
theorem okL_swell (N : Nat) (p1 : Int32) (p2 : Int32) (S : PS) (r : Int32) (T : PS) (h : fL_swell N p1 p2 S = some (r, T)) : CTW [(0, 10, 13, 18), (0, 10, 17, 13)] mL_swell 8 8 [.ref 0, .int p1, .int p2, .ref 111] S (qI r T) := by
  refine ctw_of [some (.ref 0), some (.int p1), some (.int p2), some (.ref 111), none] rfl (fun _ => rfl) (fun _ => Nat.le_of_ble_eq_true rfl) ?_
  unfold fL_swell at h
  refine r_aload_n (x := 111) dL_swell_0 rfl ?_
  refine r_iconst (v := 0) dL_swell_1 rfl ?_
  refine r_aload_n (x := 0) dL_swell_2 rfl ?_
  refine r_iload_n (x := p1) dL_swell_3 rfl ?_
  refine r_iload_n (x := p2) dL_swell_4 rfl ?_
  obtain ⟨x1, S2, h3, hx1, kx1⟩ := bH_e h
  refine r_callH (y := mX11_swell) (As := [.int p1, .int p2]) (rest := [.int 0, .ref 111]) (hN := 13) (hI := 17) (e0 := 10) (sl := 4) (len := 2) (L' := [some (.ref 0), some (.int p1), some (.int p2), some (.ref 111), none]) rfl dL_swell_5 qL_119 kX11_swell rfl rfl (okX11_swell N p1 p2 S x1 S2 h3) (by decide) (by decide) rfl (Nat.le_of_ble_eq_true rfl) (Or.inr (Or.inr rfl)) (by decide) (fun _ => Or.inr ⟨rfl, dL_swell_13⟩) (fun _ => Or.inr ⟨rfl, dL_swell_17⟩) (Nat.le_of_ble_eq_true rfl) rfl rfl (fun x4 ex1 => ?_) (fun Ex1 ex1 => ?_)
  · replace h := hx1 x4 ex1
    refine r_i2l dL_swell_8 ?_
    refine r_lastore (a := 111) (k9 := 0) dL_swell_9 ck111 nC111 ⟨by decide, by decide⟩ ?_
    refine r_topS (fun S5 hS5 => ?_)
    replace h := lt_e hS5 h
    refine r_goto (tgt := 21) dL_swell_10 (by decide) ?_
    refine r_iconst (v := 0) dL_swell_21 rfl ?_
    cases h
    exact r_ireturn dL_swell_22 rfl (by decide) ⟨rfl, rfl⟩
  · rcases kx1 Ex1 ex1 with ⟨rfl, h⟩ | ⟨rfl, h⟩
    · refine Or.inl ⟨rfl, by decide, ?_⟩
      refine r_iconst (v := 1) dL_swell_15 rfl ?_
      cases h
      exact r_ireturn dL_swell_16 rfl (by decide) ⟨rfl, rfl⟩
    · refine Or.inr ⟨rfl, by decide, ?_⟩
      refine r_iconst (v := 2) dL_swell_19 rfl ?_
      cases h
      exact r_ireturn dL_swell_20 rfl (by decide) ⟨rfl, rfl⟩
