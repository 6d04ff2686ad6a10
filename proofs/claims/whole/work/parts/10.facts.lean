/-! THE WORDS BEHIND THE LINKS (by wip/whole/gen_facts.py) -/
theorem k_119 : Cond.fieldLink "MonkMarbles$Garden" 9 "MonkMarbles$Garden" "marbles" "[I" ∈ lw_good := lw_gm 119 (by decide +kernel) (by decide +kernel)
theorem k_120 : Cond.fieldLink "MonkMarbles$Garden" 15 "MonkMarbles$Garden" "digits" "[I" ∈ lw_good := lw_gm 120 (by decide +kernel) (by decide +kernel)
theorem k_121 : Cond.fieldLink "MonkMarbles$Garden" 18 "MonkMarbles$Garden" "tallies" "[I" ∈ lw_good := lw_gm 121 (by decide +kernel) (by decide +kernel)
theorem k_122 : Cond.fieldLink "MonkMarbles$Garden" 27 "MonkMarbles$Garden" "pits" "I" ∈ lw_good := lw_gm 122 (by decide +kernel) (by decide +kernel)
theorem k_123 : Cond.fieldLink "MonkMarbles$Garden" 31 "MonkMarbles$Garden" "atTurn" "I" ∈ lw_good := lw_gm 123 (by decide +kernel) (by decide +kernel)
theorem k_124 : Cond.fieldLink "MonkMarbles$Garden" 34 "MonkMarbles$Garden" "came" "I" ∈ lw_good := lw_gm 124 (by decide +kernel) (by decide +kernel)
theorem k_125 : Cond.fieldLink "MonkMarbles$Garden" 37 "MonkMarbles$Garden" "leftLying" "I" ∈ lw_good := lw_gm 125 (by decide +kernel) (by decide +kernel)
theorem k_126 : Cond.fieldLink "MonkMarbles$Garden" 40 "MonkMarbles$Garden" "games" "I" ∈ lw_good := lw_gm 126 (by decide +kernel) (by decide +kernel)
theorem k_154 : Cond.fieldLink "MonkMarbles$History" 11 "MonkMarbles$History" "kept" "[LMonkMarbles$Garden;" ∈ lw_good := lw_gm 154 (by decide +kernel) (by decide +kernel)
theorem k_156 : Cond.fieldLink "MonkMarbles$History" 16 "MonkMarbles$History" "size" "I" ∈ lw_good := lw_gm 156 (by decide +kernel) (by decide +kernel)
theorem k_155 : Cond.fieldLink "MonkMarbles$History" 20 "MonkMarbles$History" "oldest" "I" ∈ lw_good := lw_gm 155 (by decide +kernel) (by decide +kernel)
theorem k_210 : Cond.fieldLink "MonkMarbles$Scoop" 7 "MonkMarbles$Scoop" "from" "I" ∈ lw_good := lw_gm 210 (by decide +kernel) (by decide +kernel)
theorem k_211 : Cond.fieldLink "MonkMarbles$Scoop" 13 "MonkMarbles$Scoop" "taken" "I" ∈ lw_good := lw_gm 211 (by decide +kernel) (by decide +kernel)
theorem k_212 : Cond.fieldLink "MonkMarbles$Scoop" 16 "MonkMarbles$Scoop" "left" "I" ∈ lw_good := lw_gm 212 (by decide +kernel) (by decide +kernel)
theorem k_226 : Cond.fieldLink "MonkMarbles$Text" 11 "MonkMarbles$Text" "signs" "[C" ∈ lw_good := lw_gm 226 (by decide +kernel) (by decide +kernel)
theorem k_227 : Cond.fieldLink "MonkMarbles$Text" 15 "MonkMarbles$Text" "kinds" "[C" ∈ lw_good := lw_gm 227 (by decide +kernel) (by decide +kernel)
theorem k_228 : Cond.fieldLink "MonkMarbles$Text" 18 "MonkMarbles$Text" "numbers" "[I" ∈ lw_good := lw_gm 228 (by decide +kernel) (by decide +kernel)
theorem k_229 : Cond.fieldLink "MonkMarbles$Text" 22 "MonkMarbles$Text" "length" "I" ∈ lw_good := lw_gm 229 (by decide +kernel) (by decide +kernel)
theorem k_231 : Cond.fieldLink "MonkMarbles$Text" 26 "MonkMarbles$Text" "orders" "I" ∈ lw_good := lw_gm 231 (by decide +kernel) (by decide +kernel)
theorem k_230 : Cond.fieldLink "MonkMarbles$Text" 29 "MonkMarbles$Text" "position" "I" ∈ lw_good := lw_gm 230 (by decide +kernel) (by decide +kernel)
theorem k_193 : Cond.fieldLink "MonkMarbles$Trial" 11 "MonkMarbles$Trial" "crowds" "[J" ∈ lw_good := lw_gm 193 (by decide +kernel) (by decide +kernel)
theorem k_194 : Cond.fieldLink "MonkMarbles$Trial" 15 "MonkMarbles$Trial" "isWinning" "[Z" ∈ lw_good := lw_gm 194 (by decide +kernel) (by decide +kernel)
theorem k_195 : Cond.fieldLink "MonkMarbles$Trial" 19 "MonkMarbles$Trial" "tried" "I" ∈ lw_good := lw_gm 195 (by decide +kernel) (by decide +kernel)
theorem k_170 : Cond.fieldLink "MonkMarbles$Values" 9 "MonkMarbles$Values" "digits" "[I" ∈ lw_good := lw_gm 170 (by decide +kernel) (by decide +kernel)
theorem k_171 : Cond.fieldLink "MonkMarbles$Values" 15 "MonkMarbles$Values" "byList" "[I" ∈ lw_good := lw_gm 171 (by decide +kernel) (by decide +kernel)
theorem k_172 : Cond.fieldLink "MonkMarbles$Values" 18 "MonkMarbles$Values" "byBits" "[I" ∈ lw_good := lw_gm 172 (by decide +kernel) (by decide +kernel)
theorem k_173 : Cond.fieldLink "MonkMarbles$Values" 21 "MonkMarbles$Values" "bits" "[I" ∈ lw_good := lw_gm 173 (by decide +kernel) (by decide +kernel)
theorem k_174 : Cond.fieldLink "MonkMarbles$Values" 24 "MonkMarbles$Values" "isListed" "[Z" ∈ lw_good := lw_gm 174 (by decide +kernel) (by decide +kernel)
theorem k_335 : Cond.fieldLink "MonkMarbles" 10 "MonkMarbles" "now" "LMonkMarbles$Garden;" ∈ lw_good := lw_gm 335 (by decide +kernel) (by decide +kernel)
theorem k_336 : Cond.fieldLink "MonkMarbles" 16 "MonkMarbles" "spare" "LMonkMarbles$Garden;" ∈ lw_good := lw_gm 336 (by decide +kernel) (by decide +kernel)
theorem k_337 : Cond.fieldLink "MonkMarbles" 19 "MonkMarbles" "snapshot" "LMonkMarbles$Garden;" ∈ lw_good := lw_gm 337 (by decide +kernel) (by decide +kernel)
theorem k_338 : Cond.fieldLink "MonkMarbles" 25 "MonkMarbles" "history" "LMonkMarbles$History;" ∈ lw_good := lw_gm 338 (by decide +kernel) (by decide +kernel)
theorem k_339 : Cond.fieldLink "MonkMarbles" 32 "MonkMarbles" "values" "LMonkMarbles$Values;" ∈ lw_good := lw_gm 339 (by decide +kernel) (by decide +kernel)
theorem k_340 : Cond.fieldLink "MonkMarbles" 39 "MonkMarbles" "trial" "LMonkMarbles$Trial;" ∈ lw_good := lw_gm 340 (by decide +kernel) (by decide +kernel)
theorem k_341 : Cond.fieldLink "MonkMarbles" 46 "MonkMarbles" "found" "LMonkMarbles$Scoop;" ∈ lw_good := lw_gm 341 (by decide +kernel) (by decide +kernel)
theorem k_342 : Cond.fieldLink "MonkMarbles" 53 "MonkMarbles" "text" "LMonkMarbles$Text;" ∈ lw_good := lw_gm 342 (by decide +kernel) (by decide +kernel)
theorem k_343 : Cond.fieldLink "MonkMarbles" 60 "MonkMarbles" "written" "Ljava/lang/StringBuilder;" ∈ lw_good := lw_gm 343 (by decide +kernel) (by decide +kernel)
theorem k_345 : Cond.fieldLink "MonkMarbles" 64 "MonkMarbles" "errorAt" "I" ∈ lw_good := lw_gm 345 (by decide +kernel) (by decide +kernel)
theorem k_346 : Cond.fieldLink "MonkMarbles" 68 "MonkMarbles" "reason" "I" ∈ lw_good := lw_gm 346 (by decide +kernel) (by decide +kernel)
theorem k_347 : Cond.fieldLink "MonkMarbles" 295 "MonkMarbles" "detail" "I" ∈ lw_good := lw_gm 347 (by decide +kernel) (by decide +kernel)
theorem k_344 : Cond.fieldLink "MonkMarbles" 342 "MonkMarbles" "hasSnapshot" "Z" ∈ lw_good := lw_gm 344 (by decide +kernel) (by decide +kernel)
theorem k_1434 : Cond.fieldLink "MonkMarblesModel" 7 "MonkMarblesModel" "g" "[I" ∈ lw_good := lw_gm 1434 (by decide +kernel) (by decide +kernel)
theorem k_1435 : Cond.fieldLink "MonkMarblesModel" 13 "MonkMarblesModel" "kept" "[I" ∈ lw_good := lw_gm 1435 (by decide +kernel) (by decide +kernel)
theorem k_1436 : Cond.fieldLink "MonkMarblesModel" 16 "MonkMarblesModel" "saved" "[I" ∈ lw_good := lw_gm 1436 (by decide +kernel) (by decide +kernel)
theorem k_1437 : Cond.fieldLink "MonkMarblesModel" 19 "MonkMarblesModel" "before" "[I" ∈ lw_good := lw_gm 1437 (by decide +kernel) (by decide +kernel)
theorem k_1444 : Cond.fieldLink "MonkMarblesModel" 22 "MonkMarblesModel" "input" "[I" ∈ lw_good := lw_gm 1444 (by decide +kernel) (by decide +kernel)
theorem k_1446 : Cond.fieldLink "MonkMarblesModel" 25 "MonkMarblesModel" "error" "I" ∈ lw_good := lw_gm 1446 (by decide +kernel) (by decide +kernel)
theorem k_1447 : Cond.fieldLink "MonkMarblesModel" 29 "MonkMarblesModel" "signs" "[C" ∈ lw_good := lw_gm 1447 (by decide +kernel) (by decide +kernel)
theorem k_1449 : Cond.fieldLink "MonkMarblesModel" 33 "MonkMarblesModel" "values" "[I" ∈ lw_good := lw_gm 1449 (by decide +kernel) (by decide +kernel)
theorem k_1450 : Cond.fieldLink "MonkMarblesModel" 36 "MonkMarblesModel" "has" "[Z" ∈ lw_good := lw_gm 1450 (by decide +kernel) (by decide +kernel)
theorem k_1455 : Cond.fieldLink "MonkMarblesModel" 40 "MonkMarblesModel" "order" "[I" ∈ lw_good := lw_gm 1455 (by decide +kernel) (by decide +kernel)
theorem k_1441 : Cond.fieldLink "MonkMarblesModel" 43 "MonkMarblesModel" "code" "I" ∈ lw_good := lw_gm 1441 (by decide +kernel) (by decide +kernel)
theorem k_1442 : Cond.fieldLink "MonkMarblesModel" 46 "MonkMarblesModel" "why" "I" ∈ lw_good := lw_gm 1442 (by decide +kernel) (by decide +kernel)
theorem k_1443 : Cond.fieldLink "MonkMarblesModel" 49 "MonkMarblesModel" "detail" "I" ∈ lw_good := lw_gm 1443 (by decide +kernel) (by decide +kernel)
theorem k_1440 : Cond.fieldLink "MonkMarblesModel" 52 "MonkMarblesModel" "isWithin" "Z" ∈ lw_good := lw_gm 1440 (by decide +kernel) (by decide +kernel)
theorem k_1439 : Cond.fieldLink "MonkMarblesModel" 56 "MonkMarblesModel" "changes" "I" ∈ lw_good := lw_gm 1439 (by decide +kernel) (by decide +kernel)
theorem k_1451 : Cond.fieldLink "MonkMarblesModel" 118 "MonkMarblesModel" "foundPit" "I" ∈ lw_good := lw_gm 1451 (by decide +kernel) (by decide +kernel)
theorem k_1452 : Cond.fieldLink "MonkMarblesModel" 121 "MonkMarblesModel" "foundTake" "I" ∈ lw_good := lw_gm 1452 (by decide +kernel) (by decide +kernel)
theorem k_1453 : Cond.fieldLink "MonkMarblesModel" 127 "MonkMarblesModel" "foundLeft" "I" ∈ lw_good := lw_gm 1453 (by decide +kernel) (by decide +kernel)
theorem k_1448 : Cond.fieldLink "MonkMarblesModel" 152 "MonkMarblesModel" "signMany" "I" ∈ lw_good := lw_gm 1448 (by decide +kernel) (by decide +kernel)
theorem k_1445 : Cond.fieldLink "MonkMarblesModel" 161 "MonkMarblesModel" "length" "I" ∈ lw_good := lw_gm 1445 (by decide +kernel) (by decide +kernel)
theorem k_1454 : Cond.fieldLink "MonkMarblesModel" 164 "MonkMarblesModel" "at" "I" ∈ lw_good := lw_gm 1454 (by decide +kernel) (by decide +kernel)
theorem k_1456 : Cond.fieldLink "MonkMarblesModel" 170 "MonkMarblesModel" "orderMany" "I" ∈ lw_good := lw_gm 1456 (by decide +kernel) (by decide +kernel)
theorem k_1438 : Cond.fieldLink "MonkMarblesModel" 206 "MonkMarblesModel" "isSaved" "Z" ∈ lw_good := lw_gm 1438 (by decide +kernel) (by decide +kernel)
theorem k_267 : Cond.fieldLink "java/lang/String" 1048 "java/lang/AbstractStringBuilder" "maybeLatin1" "Z" ∈ lw_good := lw_gm 267 (by decide +kernel) (by decide +kernel)
theorem k_264 : Cond.fieldLink "java/lang/AbstractStringBuilder" 15 "java/lang/AbstractStringBuilder" "value" "[B" ∈ lw_good := lw_gm 264 (by decide +kernel) (by decide +kernel)
theorem k_265 : Cond.fieldLink "java/lang/AbstractStringBuilder" 22 "java/lang/AbstractStringBuilder" "coder" "B" ∈ lw_good := lw_gm 265 (by decide +kernel) (by decide +kernel)
theorem k_266 : Cond.fieldLink "java/lang/AbstractStringBuilder" 73 "java/lang/AbstractStringBuilder" "maybeLatin1" "Z" ∈ lw_good := lw_gm 266 (by decide +kernel) (by decide +kernel)
theorem k_268 : Cond.fieldLink "java/lang/AbstractStringBuilder" 79 "java/lang/AbstractStringBuilder" "count" "I" ∈ lw_good := lw_gm 268 (by decide +kernel) (by decide +kernel)
/-- a field link -/
def eFldOk (o : Nat) (q : Nat × Nat × Nat) : Prop := ∃ r : vw_C, vwCl[q.2.1]? = some r ∧ q.2.2 < r.2.2 ∧ r.2.2 = eNum q.2.1 ∧ 4 ≤ q.2.1 + 3 * (if q.2.1 = 1 then 1 else 0) ∧ Cond.fieldLink (eOwn o) q.1 (r.2.1 q.2.2).1 (r.2.1 q.2.2).2.1 (r.2.1 q.2.2).2.2.1 ∈ lw_good
theorem eFld_0 : ∀ q ∈ eFldL 0, eFldOk 0 q := List.forall_mem_cons.mpr ⟨⟨_, rfl, by decide, rfl, by decide, k_119⟩, List.forall_mem_cons.mpr ⟨⟨_, rfl, by decide, rfl, by decide, k_120⟩, List.forall_mem_cons.mpr ⟨⟨_, rfl, by decide, rfl, by decide, k_121⟩, List.forall_mem_cons.mpr ⟨⟨_, rfl, by decide, rfl, by decide, k_122⟩, List.forall_mem_cons.mpr ⟨⟨_, rfl, by decide, rfl, by decide, k_123⟩, List.forall_mem_cons.mpr ⟨⟨_, rfl, by decide, rfl, by decide, k_124⟩, List.forall_mem_cons.mpr ⟨⟨_, rfl, by decide, rfl, by decide, k_125⟩, List.forall_mem_cons.mpr ⟨⟨_, rfl, by decide, rfl, by decide, k_126⟩, fun _ h => absurd h List.not_mem_nil⟩⟩⟩⟩⟩⟩⟩⟩
theorem eFld_1 : ∀ q ∈ eFldL 1, eFldOk 1 q := List.forall_mem_cons.mpr ⟨⟨_, rfl, by decide, rfl, by decide, k_154⟩, List.forall_mem_cons.mpr ⟨⟨_, rfl, by decide, rfl, by decide, k_156⟩, List.forall_mem_cons.mpr ⟨⟨_, rfl, by decide, rfl, by decide, k_155⟩, fun _ h => absurd h List.not_mem_nil⟩⟩⟩
theorem eFld_2 : ∀ q ∈ eFldL 2, eFldOk 2 q := List.forall_mem_cons.mpr ⟨⟨_, rfl, by decide, rfl, by decide, k_210⟩, List.forall_mem_cons.mpr ⟨⟨_, rfl, by decide, rfl, by decide, k_211⟩, List.forall_mem_cons.mpr ⟨⟨_, rfl, by decide, rfl, by decide, k_212⟩, fun _ h => absurd h List.not_mem_nil⟩⟩⟩
theorem eFld_3 : ∀ q ∈ eFldL 3, eFldOk 3 q := List.forall_mem_cons.mpr ⟨⟨_, rfl, by decide, rfl, by decide, k_226⟩, List.forall_mem_cons.mpr ⟨⟨_, rfl, by decide, rfl, by decide, k_227⟩, List.forall_mem_cons.mpr ⟨⟨_, rfl, by decide, rfl, by decide, k_228⟩, List.forall_mem_cons.mpr ⟨⟨_, rfl, by decide, rfl, by decide, k_229⟩, List.forall_mem_cons.mpr ⟨⟨_, rfl, by decide, rfl, by decide, k_231⟩, List.forall_mem_cons.mpr ⟨⟨_, rfl, by decide, rfl, by decide, k_230⟩, fun _ h => absurd h List.not_mem_nil⟩⟩⟩⟩⟩⟩
theorem eFld_4 : ∀ q ∈ eFldL 4, eFldOk 4 q := List.forall_mem_cons.mpr ⟨⟨_, rfl, by decide, rfl, by decide, k_193⟩, List.forall_mem_cons.mpr ⟨⟨_, rfl, by decide, rfl, by decide, k_194⟩, List.forall_mem_cons.mpr ⟨⟨_, rfl, by decide, rfl, by decide, k_195⟩, fun _ h => absurd h List.not_mem_nil⟩⟩⟩
theorem eFld_5 : ∀ q ∈ eFldL 5, eFldOk 5 q := List.forall_mem_cons.mpr ⟨⟨_, rfl, by decide, rfl, by decide, k_170⟩, List.forall_mem_cons.mpr ⟨⟨_, rfl, by decide, rfl, by decide, k_171⟩, List.forall_mem_cons.mpr ⟨⟨_, rfl, by decide, rfl, by decide, k_172⟩, List.forall_mem_cons.mpr ⟨⟨_, rfl, by decide, rfl, by decide, k_173⟩, List.forall_mem_cons.mpr ⟨⟨_, rfl, by decide, rfl, by decide, k_174⟩, fun _ h => absurd h List.not_mem_nil⟩⟩⟩⟩⟩
theorem eFld_6 : ∀ q ∈ eFldL 6, eFldOk 6 q := List.forall_mem_cons.mpr ⟨⟨_, rfl, by decide, rfl, by decide, k_335⟩, List.forall_mem_cons.mpr ⟨⟨_, rfl, by decide, rfl, by decide, k_336⟩, List.forall_mem_cons.mpr ⟨⟨_, rfl, by decide, rfl, by decide, k_337⟩, List.forall_mem_cons.mpr ⟨⟨_, rfl, by decide, rfl, by decide, k_338⟩, List.forall_mem_cons.mpr ⟨⟨_, rfl, by decide, rfl, by decide, k_339⟩, List.forall_mem_cons.mpr ⟨⟨_, rfl, by decide, rfl, by decide, k_340⟩, List.forall_mem_cons.mpr ⟨⟨_, rfl, by decide, rfl, by decide, k_341⟩, List.forall_mem_cons.mpr ⟨⟨_, rfl, by decide, rfl, by decide, k_342⟩, List.forall_mem_cons.mpr ⟨⟨_, rfl, by decide, rfl, by decide, k_343⟩, List.forall_mem_cons.mpr ⟨⟨_, rfl, by decide, rfl, by decide, k_345⟩, List.forall_mem_cons.mpr ⟨⟨_, rfl, by decide, rfl, by decide, k_346⟩, List.forall_mem_cons.mpr ⟨⟨_, rfl, by decide, rfl, by decide, k_347⟩, List.forall_mem_cons.mpr ⟨⟨_, rfl, by decide, rfl, by decide, k_344⟩, fun _ h => absurd h List.not_mem_nil⟩⟩⟩⟩⟩⟩⟩⟩⟩⟩⟩⟩⟩
theorem eFld_7 : ∀ q ∈ eFldL 7, eFldOk 7 q := List.forall_mem_cons.mpr ⟨⟨_, rfl, by decide, rfl, by decide, k_1434⟩, List.forall_mem_cons.mpr ⟨⟨_, rfl, by decide, rfl, by decide, k_1435⟩, List.forall_mem_cons.mpr ⟨⟨_, rfl, by decide, rfl, by decide, k_1436⟩, List.forall_mem_cons.mpr ⟨⟨_, rfl, by decide, rfl, by decide, k_1437⟩, List.forall_mem_cons.mpr ⟨⟨_, rfl, by decide, rfl, by decide, k_1444⟩, List.forall_mem_cons.mpr ⟨⟨_, rfl, by decide, rfl, by decide, k_1446⟩, List.forall_mem_cons.mpr ⟨⟨_, rfl, by decide, rfl, by decide, k_1447⟩, List.forall_mem_cons.mpr ⟨⟨_, rfl, by decide, rfl, by decide, k_1449⟩, List.forall_mem_cons.mpr ⟨⟨_, rfl, by decide, rfl, by decide, k_1450⟩, List.forall_mem_cons.mpr ⟨⟨_, rfl, by decide, rfl, by decide, k_1455⟩, List.forall_mem_cons.mpr ⟨⟨_, rfl, by decide, rfl, by decide, k_1441⟩, List.forall_mem_cons.mpr ⟨⟨_, rfl, by decide, rfl, by decide, k_1442⟩, List.forall_mem_cons.mpr ⟨⟨_, rfl, by decide, rfl, by decide, k_1443⟩, List.forall_mem_cons.mpr ⟨⟨_, rfl, by decide, rfl, by decide, k_1440⟩, List.forall_mem_cons.mpr ⟨⟨_, rfl, by decide, rfl, by decide, k_1439⟩, List.forall_mem_cons.mpr ⟨⟨_, rfl, by decide, rfl, by decide, k_1451⟩, List.forall_mem_cons.mpr ⟨⟨_, rfl, by decide, rfl, by decide, k_1452⟩, List.forall_mem_cons.mpr ⟨⟨_, rfl, by decide, rfl, by decide, k_1453⟩, List.forall_mem_cons.mpr ⟨⟨_, rfl, by decide, rfl, by decide, k_1448⟩, List.forall_mem_cons.mpr ⟨⟨_, rfl, by decide, rfl, by decide, k_1445⟩, List.forall_mem_cons.mpr ⟨⟨_, rfl, by decide, rfl, by decide, k_1454⟩, List.forall_mem_cons.mpr ⟨⟨_, rfl, by decide, rfl, by decide, k_1456⟩, List.forall_mem_cons.mpr ⟨⟨_, rfl, by decide, rfl, by decide, k_1438⟩, fun _ h => absurd h List.not_mem_nil⟩⟩⟩⟩⟩⟩⟩⟩⟩⟩⟩⟩⟩⟩⟩⟩⟩⟩⟩⟩⟩⟩⟩
theorem eFld_9 : ∀ q ∈ eFldL 9, eFldOk 9 q := List.forall_mem_cons.mpr ⟨⟨_, rfl, by decide, rfl, by decide, k_267⟩, fun _ h => absurd h List.not_mem_nil⟩
theorem eFld_13 : ∀ q ∈ eFldL 13, eFldOk 13 q := List.forall_mem_cons.mpr ⟨⟨_, rfl, by decide, rfl, by decide, k_264⟩, List.forall_mem_cons.mpr ⟨⟨_, rfl, by decide, rfl, by decide, k_265⟩, List.forall_mem_cons.mpr ⟨⟨_, rfl, by decide, rfl, by decide, k_266⟩, List.forall_mem_cons.mpr ⟨⟨_, rfl, by decide, rfl, by decide, k_268⟩, fun _ h => absurd h List.not_mem_nil⟩⟩⟩⟩
theorem eFld_ok {o idx c j : Nat} (h : eFld o idx = some (c, j)) : eFldOk o (idx, c, j) := by
  have hm := eLk_mem h
  match o, hm with
  | 0, hm => exact eFld_0 _ hm
  | 1, hm => exact eFld_1 _ hm
  | 2, hm => exact eFld_2 _ hm
  | 3, hm => exact eFld_3 _ hm
  | 4, hm => exact eFld_4 _ hm
  | 5, hm => exact eFld_5 _ hm
  | 6, hm => exact eFld_6 _ hm
  | 7, hm => exact eFld_7 _ hm
  | 9, hm => exact eFld_9 _ hm
  | 13, hm => exact eFld_13 _ hm
  | 8, hm => exact absurd hm List.not_mem_nil
  | 10, hm => exact absurd hm List.not_mem_nil
  | 11, hm => exact absurd hm List.not_mem_nil
  | 12, hm => exact absurd hm List.not_mem_nil
  | 14, hm => exact absurd hm List.not_mem_nil
  | 15, hm => exact absurd hm List.not_mem_nil
  | 16, hm => exact absurd hm List.not_mem_nil
  | 17, hm => exact absurd hm List.not_mem_nil
  | _ + 18, hm => exact absurd hm List.not_mem_nil
/-- the words of a class's fields -/
theorem eCl_1 : ∀ w ∈ u_ws RJ4 TJ4 4, w ∈ lw_good := by
  have h : (u_ws RJ4 TJ4 4).all (fun w => decide (w ∈ lw_tbl) && goodWord w) = true := by decide +kernel
  exact fun w hw => by have := List.all_eq_true.mp h w hw; simp only [Bool.and_eq_true, decide_eq_true_eq] at this; exact List.mem_filter.mpr ⟨List.mem_append_left _ this.1, this.2⟩
theorem eCl_4 : ∀ w ∈ u_ws RX0 TX0 8, w ∈ lw_good := by
  have h : (u_ws RX0 TX0 8).all (fun w => decide (w ∈ lw_tbl) && goodWord w) = true := by decide +kernel
  exact fun w hw => by have := List.all_eq_true.mp h w hw; simp only [Bool.and_eq_true, decide_eq_true_eq] at this; exact List.mem_filter.mpr ⟨List.mem_append_left _ this.1, this.2⟩
theorem eCl_5 : ∀ w ∈ u_ws RX1 TX1 3, w ∈ lw_good := by
  have h : (u_ws RX1 TX1 3).all (fun w => decide (w ∈ lw_tbl) && goodWord w) = true := by decide +kernel
  exact fun w hw => by have := List.all_eq_true.mp h w hw; simp only [Bool.and_eq_true, decide_eq_true_eq] at this; exact List.mem_filter.mpr ⟨List.mem_append_left _ this.1, this.2⟩
theorem eCl_6 : ∀ w ∈ u_ws RX2 TX2 3, w ∈ lw_good := by
  have h : (u_ws RX2 TX2 3).all (fun w => decide (w ∈ lw_tbl) && goodWord w) = true := by decide +kernel
  exact fun w hw => by have := List.all_eq_true.mp h w hw; simp only [Bool.and_eq_true, decide_eq_true_eq] at this; exact List.mem_filter.mpr ⟨List.mem_append_left _ this.1, this.2⟩
theorem eCl_7 : ∀ w ∈ u_ws RX3 TX3 6, w ∈ lw_good := by
  have h : (u_ws RX3 TX3 6).all (fun w => decide (w ∈ lw_tbl) && goodWord w) = true := by decide +kernel
  exact fun w hw => by have := List.all_eq_true.mp h w hw; simp only [Bool.and_eq_true, decide_eq_true_eq] at this; exact List.mem_filter.mpr ⟨List.mem_append_left _ this.1, this.2⟩
theorem eCl_8 : ∀ w ∈ u_ws RX4 TX4 3, w ∈ lw_good := by
  have h : (u_ws RX4 TX4 3).all (fun w => decide (w ∈ lw_tbl) && goodWord w) = true := by decide +kernel
  exact fun w hw => by have := List.all_eq_true.mp h w hw; simp only [Bool.and_eq_true, decide_eq_true_eq] at this; exact List.mem_filter.mpr ⟨List.mem_append_left _ this.1, this.2⟩
theorem eCl_9 : ∀ w ∈ u_ws RX5 TX5 5, w ∈ lw_good := by
  have h : (u_ws RX5 TX5 5).all (fun w => decide (w ∈ lw_tbl) && goodWord w) = true := by decide +kernel
  exact fun w hw => by have := List.all_eq_true.mp h w hw; simp only [Bool.and_eq_true, decide_eq_true_eq] at this; exact List.mem_filter.mpr ⟨List.mem_append_left _ this.1, this.2⟩
theorem eCl_10 : ∀ w ∈ u_ws RX6 TX6 13, w ∈ lw_good := by
  have h : (u_ws RX6 TX6 13).all (fun w => decide (w ∈ lw_tbl) && goodWord w) = true := by decide +kernel
  exact fun w hw => by have := List.all_eq_true.mp h w hw; simp only [Bool.and_eq_true, decide_eq_true_eq] at this; exact List.mem_filter.mpr ⟨List.mem_append_left _ this.1, this.2⟩
theorem eCl_11 : ∀ w ∈ u_ws RX7 TX7 23, w ∈ lw_good := by
  have h : (u_ws RX7 TX7 23).all (fun w => decide (w ∈ lw_tbl) && goodWord w) = true := by decide +kernel
  exact fun w hw => by have := List.all_eq_true.mp h w hw; simp only [Bool.and_eq_true, decide_eq_true_eq] at this; exact List.mem_filter.mpr ⟨List.mem_append_left _ this.1, this.2⟩
def eClOk (c : Nat) (r : vw_C) : Prop := (∀ w ∈ u_ws r.1 r.2.1 r.2.2, w ∈ lw_good) ∧ (∀ k, k < r.2.2 → parseFieldDescriptor (r.2.1 k).2.2.1 = some (eTyp c k)) ∧ (∀ a, a < r.2.2 → ∀ b, b < r.2.2 → a ≠ b → (r.2.1 a).2.1 ≠ (r.2.1 b).2.1)
theorem eCl_ok {c : Nat} {r : vw_C} (h : vwCl[c]? = some r) (h4 : 4 ≤ c + 3 * (if c = 1 then 1 else 0)) : eClOk c r := by
  match c, h, h4 with
  | 0, h, h4 => exact absurd h4 (by decide)
  | 1, h, h4 => cases h; exact ⟨eCl_1, tyJ4_ok, nmJ4⟩
  | 2, h, h4 => exact absurd h4 (by decide)
  | 3, h, h4 => exact absurd h4 (by decide)
  | 4, h, h4 => cases h; exact ⟨eCl_4, tyX0_ok, nmX0⟩
  | 5, h, h4 => cases h; exact ⟨eCl_5, tyX1_ok, nmX1⟩
  | 6, h, h4 => cases h; exact ⟨eCl_6, tyX2_ok, nmX2⟩
  | 7, h, h4 => cases h; exact ⟨eCl_7, tyX3_ok, nmX3⟩
  | 8, h, h4 => cases h; exact ⟨eCl_8, tyX4_ok, nmX4⟩
  | 9, h, h4 => cases h; exact ⟨eCl_9, tyX5_ok, nmX5⟩
  | 10, h, h4 => cases h; exact ⟨eCl_10, tyX6_ok, nmX6⟩
  | 11, h, h4 => cases h; exact ⟨eCl_11, tyX7_ok, nmX7⟩
  | _ + 12, h, h4 => exact absurd h (by simp [vwCl])
