/-! STATIC FACTS: whose a method is, its bytes, its name, what it returns; what the constant pools link -/
def byt (m : Nat) : ByteArray := bif Nat.blt m 228 then (bif Nat.blt m 114 then (bif Nat.blt m 57 then (bif Nat.blt m 28 then (bif Nat.blt m 14 then (bif Nat.blt m 7 then (bif Nat.blt m 3 then (bif Nat.blt m 1 then (cX0_find) else (bif Nat.blt m 2 then (cX0_fewestColours) else (cX0_hasNoBonds))) else (bif Nat.blt m 5 then (bif Nat.blt m 4 then (cX0_steps) else (cX0_around)) else (bif Nat.blt m 6 then (cX1_measure) else (cX1_countPieces)))) else (bif Nat.blt m 10 then (bif Nat.blt m 8 then (cX1_pieceAround) else (bif Nat.blt m 9 then (cX1_isClosed) else (cX1_worthTo))) else (bif Nat.blt m 12 then (bif Nat.blt m 11 then (cX1_lessStrokes) else (cX1_meritBy)) else (bif Nat.blt m 13 then (cX2_begin) else (cX2_become))))) else (bif Nat.blt m 21 then (bif Nat.blt m 17 then (bif Nat.blt m 15 then (cX2_wantsAll) else (bif Nat.blt m 16 then (cX2_hasRoom) else (cX2_ends))) else (bif Nat.blt m 19 then (bif Nat.blt m 18 then (cX2_find) else (cX2_draw)) else (bif Nat.blt m 20 then (cX2_erase) else (cX2_eraseAt)))) else (bif Nat.blt m 24 then (bif Nat.blt m 22 then (cX2_lose) else (bif Nat.blt m 23 then (cX3_work) else (cX3_findPoints))) else (bif Nat.blt m 26 then (bif Nat.blt m 25 then (cX3_findWorths) else (cX3_mayKeep)) else (bif Nat.blt m 27 then (cX3_pointsBut) else (cX3_leastWorth)))))) else (bif Nat.blt m 42 then (bif Nat.blt m 35 then (bif Nat.blt m 31 then (bif Nat.blt m 29 then (cX3_nextRow) else (bif Nat.blt m 30 then (cX3_turnKeep) else (cX3_nextWanter))) else (bif Nat.blt m 33 then (bif Nat.blt m 32 then (cX4_takeRow) else (cX4_holdsParish)) else (bif Nat.blt m 34 then (cX4_refusalAsRow) else (cX4_hasElement)))) else (bif Nat.blt m 38 then (bif Nat.blt m 36 then (cX4_hasSpan) else (bif Nat.blt m 37 then (cX4_put) else (cX5_between))) else (bif Nat.blt m 40 then (bif Nat.blt m 39 then (cX5_leastRow) else (cX5_leastColumn)) else (bif Nat.blt m 41 then (cX5_isWithin) else (cX5_falls))))) else (bif Nat.blt m 49 then (bif Nat.blt m 45 then (bif Nat.blt m 43 then (cX6_become) else (bif Nat.blt m 44 then (cX6_hasRoomForPoint) else (cX6_addPoint))) else (bif Nat.blt m 47 then (bif Nat.blt m 46 then (cX6_hasRoomForParish) else (cX6_addParish)) else (bif Nat.blt m 48 then (cX6_rowOf) else (cX6_columnOf)))) else (bif Nat.blt m 53 then (bif Nat.blt m 51 then (bif Nat.blt m 50 then (cX6_length) else (cX6_lightOf)) else (bif Nat.blt m 52 then (cX6_wantersOf) else (cX6_isShared))) else (bif Nat.blt m 55 then (bif Nat.blt m 54 then (cX6_sharedPoints) else (cX6_linesAt)) else (bif Nat.blt m 56 then (cX6_allLines) else (cX6_joined))))))) else (bif Nat.blt m 85 then (bif Nat.blt m 71 then (bif Nat.blt m 64 then (bif Nat.blt m 60 then (bif Nat.blt m 58 then (cX6_lengthTo) else (bif Nat.blt m 59 then (cX6_drawByLot) else (cX6_lot))) else (bif Nat.blt m 62 then (bif Nat.blt m 61 then (cX6_wantedPoint) else (cX7_append)) else (bif Nat.blt m 63 then (cX7_readInto) else (cX7_skipBlanks)))) else (bif Nat.blt m 67 then (bif Nat.blt m 65 then (cX7_readSemicolon) else (bif Nat.blt m 66 then (cX7_readStatement) else (cX7_isWord))) else (bif Nat.blt m 69 then (bif Nat.blt m 68 then (cX7_readNumber) else (cX7_readPoint)) else (bif Nat.blt m 70 then (cX7_readParish) else (cX7_readWants))))) else (bif Nat.blt m 78 then (bif Nat.blt m 74 then (bif Nat.blt m 72 then (cX7_readLine) else (bif Nat.blt m 73 then (cX7_allow) else (cX7_readCloud))) else (bif Nat.blt m 76 then (bif Nat.blt m 75 then (cX8_row) else (cX8_set)) else (bif Nat.blt m 77 then (cX8_copy) else (cX8_element)))) else (bif Nat.blt m 81 then (bif Nat.blt m 79 then (cX8_holds) else (bif Nat.blt m 80 then (cX8_show) else (cX8_says))) else (bif Nat.blt m 83 then (bif Nat.blt m 82 then (cX8_point) else (cX8_parish)) else (bif Nat.blt m 84 then (cX8_wants) else (cX8_line)))))) else (bif Nat.blt m 99 then (bif Nat.blt m 92 then (bif Nat.blt m 88 then (bif Nat.blt m 86 then (cX8_drop) else (bif Nat.blt m 87 then (cX8_cloud) else (cX8_feed))) else (bif Nat.blt m 90 then (bif Nat.blt m 89 then (cX8_wipe) else (cX8_sky)) else (bif Nat.blt m 91 then (cX8_pointOf) else (cX8_parishOf)))) else (bif Nat.blt m 95 then (bif Nat.blt m 93 then (cX8_crowd) else (bif Nat.blt m 94 then (cX8_lineOf) else (cX8_shift))) else (bif Nat.blt m 97 then (bif Nat.blt m 96 then (cX8_better) else (cX8_share)) else (bif Nat.blt m 98 then (cX8_colours) else (cX8_way))))) else (bif Nat.blt m 106 then (bif Nat.blt m 102 then (bif Nat.blt m 100 then (cX8_pick) else (bif Nat.blt m 101 then (cX8_laws) else (cX8_whose))) else (bif Nat.blt m 104 then (bif Nat.blt m 103 then (cX8_seen) else (cX8_nights)) else (bif Nat.blt m 105 then (cX8_give) else (cX8_seed)))) else (bif Nat.blt m 110 then (bif Nat.blt m 108 then (bif Nat.blt m 107 then (cX8_image) else (cX8_back)) else (bif Nat.blt m 109 then (cX8_status) else (cX8_refuse))) else (bif Nat.blt m 112 then (bif Nat.blt m 111 then (cX8_isShelf) else (cX8_isPoint)) else (bif Nat.blt m 113 then (cX8_isParish) else (cX8_isPair)))))))) else (bif Nat.blt m 171 then (bif Nat.blt m 142 then (bif Nat.blt m 128 then (bif Nat.blt m 121 then (bif Nat.blt m 117 then (bif Nat.blt m 115 then (cX8_isUnder) else (bif Nat.blt m 116 then (cX8_worthOf) else (cX8_spareWorth))) else (bif Nat.blt m 119 then (bif Nat.blt m 118 then (cX8_allWorth) else (cX8_shelvesInUse)) else (bif Nat.blt m 120 then (cX8_bestNewLine) else (cX8_worstLine)))) else (bif Nat.blt m 124 then (bif Nat.blt m 122 then (cX8_pickedBy) else (bif Nat.blt m 123 then (cX8_arePairs) else (cX8_takeTold))) else (bif Nat.blt m 126 then (bif Nat.blt m 125 then (cX8_isTold) else (cX8_nearestToTold)) else (bif Nat.blt m 127 then (cX8_differenceFromTold) else (cX8_likelyAllSeen))))) else (bif Nat.blt m 135 then (bif Nat.blt m 131 then (bif Nat.blt m 129 then (cX9_isIn) else (bif Nat.blt m 130 then (cX9_refuse) else (cX9_move))) else (bif Nat.blt m 133 then (bif Nat.blt m 132 then (cX9_isPoint) else (cX9_isParish)) else (bif Nat.blt m 134 then (cX9_cell) else (cX9_bright)))) else (bif Nat.blt m 138 then (bif Nat.blt m 136 then (cX9_wanted) else (bif Nat.blt m 137 then (cX9_isWanted) else (cX9_kind))) else (bif Nat.blt m 140 then (bif Nat.blt m 139 then (cX9_a) else (cX9_lines)) else (bif Nat.blt m 141 then (cX9_end) else (cX9_addPoint)))))) else (bif Nat.blt m 156 then (bif Nat.blt m 149 then (bif Nat.blt m 145 then (bif Nat.blt m 143 then (cX9_addParish) else (bif Nat.blt m 144 then (cX9_drawn) else (cX9_draw))) else (bif Nat.blt m 147 then (bif Nat.blt m 146 then (cX9_erase) else (cX9_eraseIn)) else (bif Nat.blt m 148 then (cX9_point) else (cX9_parish)))) else (bif Nat.blt m 152 then (bif Nat.blt m 150 then (cX9_wants) else (bif Nat.blt m 151 then (cX9_isPair) else (cX9_line))) else (bif Nat.blt m 154 then (bif Nat.blt m 153 then (cX9_drop) else (cX9_cloud)) else (bif Nat.blt m 155 then (cX9_feed) else (cX9_wipe))))) else (bif Nat.blt m 163 then (bif Nat.blt m 159 then (bif Nat.blt m 157 then (cX9_sortAt) else (bif Nat.blt m 158 then (cX9_next) else (cX9_word))) else (bif Nat.blt m 161 then (bif Nat.blt m 160 then (cX9_number) else (cX9_isLine)) else (bif Nat.blt m 162 then (cX9_isStatement) else (cX9_sky)))) else (bif Nat.blt m 167 then (bif Nat.blt m 165 then (bif Nat.blt m 164 then (cX9_length) else (cX9_lengthOf)) else (bif Nat.blt m 166 then (cX9_lengths) else (cX9_longest))) else (bif Nat.blt m 169 then (bif Nat.blt m 168 then (cX9_ones) else (cX9_used)) else (bif Nat.blt m 170 then (cX9_odd) else (cX9_light))))))) else (bif Nat.blt m 199 then (bif Nat.blt m 185 then (bif Nat.blt m 178 then (bif Nat.blt m 174 then (bif Nat.blt m 172 then (cX9_piece) else (bif Nat.blt m 173 then (cX9_pieces) else (cX9_isClosed))) else (bif Nat.blt m 176 then (bif Nat.blt m 175 then (cX9_worth) else (cX9_wish)) else (bif Nat.blt m 177 then (cX9_meet) else (cX9_pointOf)))) else (bif Nat.blt m 181 then (bif Nat.blt m 179 then (cX9_parishOf) else (bif Nat.blt m 180 then (cX9_crowd) else (cX9_lineOf))) else (bif Nat.blt m 183 then (bif Nat.blt m 182 then (cX9_isAmong) else (cX9_isShifted)) else (bif Nat.blt m 184 then (cX9_shift) else (cX9_joined))))) else (bif Nat.blt m 192 then (bif Nat.blt m 188 then (bif Nat.blt m 186 then (cX9_newLine) else (bif Nat.blt m 187 then (cX9_worst) else (cX9_better))) else (bif Nat.blt m 190 then (bif Nat.blt m 189 then (cX9_give) else (cX9_giveTo)) else (bif Nat.blt m 191 then (cX9_manyShared) else (cX9_makeShare)))) else (bif Nat.blt m 195 then (bif Nat.blt m 193 then (cX9_share) else (bif Nat.blt m 194 then (cX9_give_) else (cX9_isBeside))) else (bif Nat.blt m 197 then (bif Nat.blt m 196 then (cX9_canColour) else (cX9_colours)) else (bif Nat.blt m 198 then (cX9_way) else (cX9_byLaw)))))) else (bif Nat.blt m 213 then (bif Nat.blt m 206 then (bif Nat.blt m 202 then (bif Nat.blt m 200 then (cX9_picked) else (bif Nat.blt m 201 then (cX9_pick) else (cX9_laws))) else (bif Nat.blt m 204 then (bif Nat.blt m 203 then (cX9_isShelf) else (cX9_row)) else (bif Nat.blt m 205 then (cX9_rowIn) else (cX9_set)))) else (bif Nat.blt m 209 then (bif Nat.blt m 207 then (cX9_copy) else (bif Nat.blt m 208 then (cX9_element) else (cX9_holds))) else (bif Nat.blt m 211 then (bif Nat.blt m 210 then (cX9_show) else (cX9_says)) else (bif Nat.blt m 212 then (cX9_unlike) else (cX9_whose))))) else (bif Nat.blt m 220 then (bif Nat.blt m 216 then (bif Nat.blt m 214 then (cX9_seen) else (bif Nat.blt m 215 then (cX9_drawBelow) else (cX9_among))) else (bif Nat.blt m 218 then (bif Nat.blt m 217 then (cX9_night) else (cX9_allLines)) else (bif Nat.blt m 219 then (cX9_nights) else (cX9_seed)))) else (bif Nat.blt m 224 then (bif Nat.blt m 222 then (bif Nat.blt m 221 then (cX9_image) else (cX9_back)) else (bif Nat.blt m 223 then (cX9_status) else (cJ6_numberOfTrailingZeros_0f7a4))) else (bif Nat.blt m 226 then (bif Nat.blt m 225 then (cJ6_bitCount_0f7a4) else (cJ7_fill_d0a16)) else (bif Nat.blt m 227 then (cJ7_fill_53178) else (cL_law))))))))) else cL_law
def yM (m : Nat) : MethodName := bif Nat.blt m 228 then (bif Nat.blt m 114 then (bif Nat.blt m 57 then (bif Nat.blt m 28 then (bif Nat.blt m 14 then (bif Nat.blt m 7 then (bif Nat.blt m 3 then (bif Nat.blt m 1 then (yX0_find) else (bif Nat.blt m 2 then (yX0_fewestColours) else (yX0_hasNoBonds))) else (bif Nat.blt m 5 then (bif Nat.blt m 4 then (yX0_steps) else (yX0_around)) else (bif Nat.blt m 6 then (yX1_measure) else (yX1_countPieces)))) else (bif Nat.blt m 10 then (bif Nat.blt m 8 then (yX1_pieceAround) else (bif Nat.blt m 9 then (yX1_isClosed) else (yX1_worthTo))) else (bif Nat.blt m 12 then (bif Nat.blt m 11 then (yX1_lessStrokes) else (yX1_meritBy)) else (bif Nat.blt m 13 then (yX2_begin) else (yX2_become))))) else (bif Nat.blt m 21 then (bif Nat.blt m 17 then (bif Nat.blt m 15 then (yX2_wantsAll) else (bif Nat.blt m 16 then (yX2_hasRoom) else (yX2_ends))) else (bif Nat.blt m 19 then (bif Nat.blt m 18 then (yX2_find) else (yX2_draw)) else (bif Nat.blt m 20 then (yX2_erase) else (yX2_eraseAt)))) else (bif Nat.blt m 24 then (bif Nat.blt m 22 then (yX2_lose) else (bif Nat.blt m 23 then (yX3_work) else (yX3_findPoints))) else (bif Nat.blt m 26 then (bif Nat.blt m 25 then (yX3_findWorths) else (yX3_mayKeep)) else (bif Nat.blt m 27 then (yX3_pointsBut) else (yX3_leastWorth)))))) else (bif Nat.blt m 42 then (bif Nat.blt m 35 then (bif Nat.blt m 31 then (bif Nat.blt m 29 then (yX3_nextRow) else (bif Nat.blt m 30 then (yX3_turnKeep) else (yX3_nextWanter))) else (bif Nat.blt m 33 then (bif Nat.blt m 32 then (yX4_takeRow) else (yX4_holdsParish)) else (bif Nat.blt m 34 then (yX4_refusalAsRow) else (yX4_hasElement)))) else (bif Nat.blt m 38 then (bif Nat.blt m 36 then (yX4_hasSpan) else (bif Nat.blt m 37 then (yX4_put) else (yX5_between))) else (bif Nat.blt m 40 then (bif Nat.blt m 39 then (yX5_leastRow) else (yX5_leastColumn)) else (bif Nat.blt m 41 then (yX5_isWithin) else (yX5_falls))))) else (bif Nat.blt m 49 then (bif Nat.blt m 45 then (bif Nat.blt m 43 then (yX6_become) else (bif Nat.blt m 44 then (yX6_hasRoomForPoint) else (yX6_addPoint))) else (bif Nat.blt m 47 then (bif Nat.blt m 46 then (yX6_hasRoomForParish) else (yX6_addParish)) else (bif Nat.blt m 48 then (yX6_rowOf) else (yX6_columnOf)))) else (bif Nat.blt m 53 then (bif Nat.blt m 51 then (bif Nat.blt m 50 then (yX6_length) else (yX6_lightOf)) else (bif Nat.blt m 52 then (yX6_wantersOf) else (yX6_isShared))) else (bif Nat.blt m 55 then (bif Nat.blt m 54 then (yX6_sharedPoints) else (yX6_linesAt)) else (bif Nat.blt m 56 then (yX6_allLines) else (yX6_joined))))))) else (bif Nat.blt m 85 then (bif Nat.blt m 71 then (bif Nat.blt m 64 then (bif Nat.blt m 60 then (bif Nat.blt m 58 then (yX6_lengthTo) else (bif Nat.blt m 59 then (yX6_drawByLot) else (yX6_lot))) else (bif Nat.blt m 62 then (bif Nat.blt m 61 then (yX6_wantedPoint) else (yX7_append)) else (bif Nat.blt m 63 then (yX7_readInto) else (yX7_skipBlanks)))) else (bif Nat.blt m 67 then (bif Nat.blt m 65 then (yX7_readSemicolon) else (bif Nat.blt m 66 then (yX7_readStatement) else (yX7_isWord))) else (bif Nat.blt m 69 then (bif Nat.blt m 68 then (yX7_readNumber) else (yX7_readPoint)) else (bif Nat.blt m 70 then (yX7_readParish) else (yX7_readWants))))) else (bif Nat.blt m 78 then (bif Nat.blt m 74 then (bif Nat.blt m 72 then (yX7_readLine) else (bif Nat.blt m 73 then (yX7_allow) else (yX7_readCloud))) else (bif Nat.blt m 76 then (bif Nat.blt m 75 then (yX8_row) else (yX8_set)) else (bif Nat.blt m 77 then (yX8_copy) else (yX8_element)))) else (bif Nat.blt m 81 then (bif Nat.blt m 79 then (yX8_holds) else (bif Nat.blt m 80 then (yX8_show) else (yX8_says))) else (bif Nat.blt m 83 then (bif Nat.blt m 82 then (yX8_point) else (yX8_parish)) else (bif Nat.blt m 84 then (yX8_wants) else (yX8_line)))))) else (bif Nat.blt m 99 then (bif Nat.blt m 92 then (bif Nat.blt m 88 then (bif Nat.blt m 86 then (yX8_drop) else (bif Nat.blt m 87 then (yX8_cloud) else (yX8_feed))) else (bif Nat.blt m 90 then (bif Nat.blt m 89 then (yX8_wipe) else (yX8_sky)) else (bif Nat.blt m 91 then (yX8_pointOf) else (yX8_parishOf)))) else (bif Nat.blt m 95 then (bif Nat.blt m 93 then (yX8_crowd) else (bif Nat.blt m 94 then (yX8_lineOf) else (yX8_shift))) else (bif Nat.blt m 97 then (bif Nat.blt m 96 then (yX8_better) else (yX8_share)) else (bif Nat.blt m 98 then (yX8_colours) else (yX8_way))))) else (bif Nat.blt m 106 then (bif Nat.blt m 102 then (bif Nat.blt m 100 then (yX8_pick) else (bif Nat.blt m 101 then (yX8_laws) else (yX8_whose))) else (bif Nat.blt m 104 then (bif Nat.blt m 103 then (yX8_seen) else (yX8_nights)) else (bif Nat.blt m 105 then (yX8_give) else (yX8_seed)))) else (bif Nat.blt m 110 then (bif Nat.blt m 108 then (bif Nat.blt m 107 then (yX8_image) else (yX8_back)) else (bif Nat.blt m 109 then (yX8_status) else (yX8_refuse))) else (bif Nat.blt m 112 then (bif Nat.blt m 111 then (yX8_isShelf) else (yX8_isPoint)) else (bif Nat.blt m 113 then (yX8_isParish) else (yX8_isPair)))))))) else (bif Nat.blt m 171 then (bif Nat.blt m 142 then (bif Nat.blt m 128 then (bif Nat.blt m 121 then (bif Nat.blt m 117 then (bif Nat.blt m 115 then (yX8_isUnder) else (bif Nat.blt m 116 then (yX8_worthOf) else (yX8_spareWorth))) else (bif Nat.blt m 119 then (bif Nat.blt m 118 then (yX8_allWorth) else (yX8_shelvesInUse)) else (bif Nat.blt m 120 then (yX8_bestNewLine) else (yX8_worstLine)))) else (bif Nat.blt m 124 then (bif Nat.blt m 122 then (yX8_pickedBy) else (bif Nat.blt m 123 then (yX8_arePairs) else (yX8_takeTold))) else (bif Nat.blt m 126 then (bif Nat.blt m 125 then (yX8_isTold) else (yX8_nearestToTold)) else (bif Nat.blt m 127 then (yX8_differenceFromTold) else (yX8_likelyAllSeen))))) else (bif Nat.blt m 135 then (bif Nat.blt m 131 then (bif Nat.blt m 129 then (yX9_isIn) else (bif Nat.blt m 130 then (yX9_refuse) else (yX9_move))) else (bif Nat.blt m 133 then (bif Nat.blt m 132 then (yX9_isPoint) else (yX9_isParish)) else (bif Nat.blt m 134 then (yX9_cell) else (yX9_bright)))) else (bif Nat.blt m 138 then (bif Nat.blt m 136 then (yX9_wanted) else (bif Nat.blt m 137 then (yX9_isWanted) else (yX9_kind))) else (bif Nat.blt m 140 then (bif Nat.blt m 139 then (yX9_a) else (yX9_lines)) else (bif Nat.blt m 141 then (yX9_end) else (yX9_addPoint)))))) else (bif Nat.blt m 156 then (bif Nat.blt m 149 then (bif Nat.blt m 145 then (bif Nat.blt m 143 then (yX9_addParish) else (bif Nat.blt m 144 then (yX9_drawn) else (yX9_draw))) else (bif Nat.blt m 147 then (bif Nat.blt m 146 then (yX9_erase) else (yX9_eraseIn)) else (bif Nat.blt m 148 then (yX9_point) else (yX9_parish)))) else (bif Nat.blt m 152 then (bif Nat.blt m 150 then (yX9_wants) else (bif Nat.blt m 151 then (yX9_isPair) else (yX9_line))) else (bif Nat.blt m 154 then (bif Nat.blt m 153 then (yX9_drop) else (yX9_cloud)) else (bif Nat.blt m 155 then (yX9_feed) else (yX9_wipe))))) else (bif Nat.blt m 163 then (bif Nat.blt m 159 then (bif Nat.blt m 157 then (yX9_sortAt) else (bif Nat.blt m 158 then (yX9_next) else (yX9_word))) else (bif Nat.blt m 161 then (bif Nat.blt m 160 then (yX9_number) else (yX9_isLine)) else (bif Nat.blt m 162 then (yX9_isStatement) else (yX9_sky)))) else (bif Nat.blt m 167 then (bif Nat.blt m 165 then (bif Nat.blt m 164 then (yX9_length) else (yX9_lengthOf)) else (bif Nat.blt m 166 then (yX9_lengths) else (yX9_longest))) else (bif Nat.blt m 169 then (bif Nat.blt m 168 then (yX9_ones) else (yX9_used)) else (bif Nat.blt m 170 then (yX9_odd) else (yX9_light))))))) else (bif Nat.blt m 199 then (bif Nat.blt m 185 then (bif Nat.blt m 178 then (bif Nat.blt m 174 then (bif Nat.blt m 172 then (yX9_piece) else (bif Nat.blt m 173 then (yX9_pieces) else (yX9_isClosed))) else (bif Nat.blt m 176 then (bif Nat.blt m 175 then (yX9_worth) else (yX9_wish)) else (bif Nat.blt m 177 then (yX9_meet) else (yX9_pointOf)))) else (bif Nat.blt m 181 then (bif Nat.blt m 179 then (yX9_parishOf) else (bif Nat.blt m 180 then (yX9_crowd) else (yX9_lineOf))) else (bif Nat.blt m 183 then (bif Nat.blt m 182 then (yX9_isAmong) else (yX9_isShifted)) else (bif Nat.blt m 184 then (yX9_shift) else (yX9_joined))))) else (bif Nat.blt m 192 then (bif Nat.blt m 188 then (bif Nat.blt m 186 then (yX9_newLine) else (bif Nat.blt m 187 then (yX9_worst) else (yX9_better))) else (bif Nat.blt m 190 then (bif Nat.blt m 189 then (yX9_give) else (yX9_giveTo)) else (bif Nat.blt m 191 then (yX9_manyShared) else (yX9_makeShare)))) else (bif Nat.blt m 195 then (bif Nat.blt m 193 then (yX9_share) else (bif Nat.blt m 194 then (yX9_give_) else (yX9_isBeside))) else (bif Nat.blt m 197 then (bif Nat.blt m 196 then (yX9_canColour) else (yX9_colours)) else (bif Nat.blt m 198 then (yX9_way) else (yX9_byLaw)))))) else (bif Nat.blt m 213 then (bif Nat.blt m 206 then (bif Nat.blt m 202 then (bif Nat.blt m 200 then (yX9_picked) else (bif Nat.blt m 201 then (yX9_pick) else (yX9_laws))) else (bif Nat.blt m 204 then (bif Nat.blt m 203 then (yX9_isShelf) else (yX9_row)) else (bif Nat.blt m 205 then (yX9_rowIn) else (yX9_set)))) else (bif Nat.blt m 209 then (bif Nat.blt m 207 then (yX9_copy) else (bif Nat.blt m 208 then (yX9_element) else (yX9_holds))) else (bif Nat.blt m 211 then (bif Nat.blt m 210 then (yX9_show) else (yX9_says)) else (bif Nat.blt m 212 then (yX9_unlike) else (yX9_whose))))) else (bif Nat.blt m 220 then (bif Nat.blt m 216 then (bif Nat.blt m 214 then (yX9_seen) else (bif Nat.blt m 215 then (yX9_drawBelow) else (yX9_among))) else (bif Nat.blt m 218 then (bif Nat.blt m 217 then (yX9_night) else (yX9_allLines)) else (bif Nat.blt m 219 then (yX9_nights) else (yX9_seed)))) else (bif Nat.blt m 224 then (bif Nat.blt m 222 then (bif Nat.blt m 221 then (yX9_image) else (yX9_back)) else (bif Nat.blt m 223 then (yX9_status) else (yJ6_numberOfTrailingZeros_0f7a4))) else (bif Nat.blt m 226 then (bif Nat.blt m 225 then (yJ6_bitCount_0f7a4) else (yJ7_fill_d0a16)) else (bif Nat.blt m 227 then (yJ7_fill_53178) else (yL_law))))))))) else yL_law
def ow (m : Nat) : Nat := bif Nat.blt m 228 then (bif Nat.blt m 114 then (bif Nat.blt m 57 then (bif Nat.blt m 28 then (bif Nat.blt m 14 then (bif Nat.blt m 7 then (bif Nat.blt m 3 then (bif Nat.blt m 1 then (1) else (bif Nat.blt m 2 then (1) else (1))) else (bif Nat.blt m 5 then (bif Nat.blt m 4 then (1) else (1)) else (bif Nat.blt m 6 then (2) else (2)))) else (bif Nat.blt m 10 then (bif Nat.blt m 8 then (2) else (bif Nat.blt m 9 then (2) else (2))) else (bif Nat.blt m 12 then (bif Nat.blt m 11 then (2) else (2)) else (bif Nat.blt m 13 then (3) else (3))))) else (bif Nat.blt m 21 then (bif Nat.blt m 17 then (bif Nat.blt m 15 then (3) else (bif Nat.blt m 16 then (3) else (3))) else (bif Nat.blt m 19 then (bif Nat.blt m 18 then (3) else (3)) else (bif Nat.blt m 20 then (3) else (3)))) else (bif Nat.blt m 24 then (bif Nat.blt m 22 then (3) else (bif Nat.blt m 23 then (4) else (4))) else (bif Nat.blt m 26 then (bif Nat.blt m 25 then (4) else (4)) else (bif Nat.blt m 27 then (4) else (4)))))) else (bif Nat.blt m 42 then (bif Nat.blt m 35 then (bif Nat.blt m 31 then (bif Nat.blt m 29 then (4) else (bif Nat.blt m 30 then (4) else (4))) else (bif Nat.blt m 33 then (bif Nat.blt m 32 then (5) else (5)) else (bif Nat.blt m 34 then (5) else (5)))) else (bif Nat.blt m 38 then (bif Nat.blt m 36 then (5) else (bif Nat.blt m 37 then (5) else (6))) else (bif Nat.blt m 40 then (bif Nat.blt m 39 then (6) else (6)) else (bif Nat.blt m 41 then (6) else (6))))) else (bif Nat.blt m 49 then (bif Nat.blt m 45 then (bif Nat.blt m 43 then (7) else (bif Nat.blt m 44 then (7) else (7))) else (bif Nat.blt m 47 then (bif Nat.blt m 46 then (7) else (7)) else (bif Nat.blt m 48 then (7) else (7)))) else (bif Nat.blt m 53 then (bif Nat.blt m 51 then (bif Nat.blt m 50 then (7) else (7)) else (bif Nat.blt m 52 then (7) else (7))) else (bif Nat.blt m 55 then (bif Nat.blt m 54 then (7) else (7)) else (bif Nat.blt m 56 then (7) else (7))))))) else (bif Nat.blt m 85 then (bif Nat.blt m 71 then (bif Nat.blt m 64 then (bif Nat.blt m 60 then (bif Nat.blt m 58 then (7) else (bif Nat.blt m 59 then (7) else (7))) else (bif Nat.blt m 62 then (bif Nat.blt m 61 then (7) else (8)) else (bif Nat.blt m 63 then (8) else (8)))) else (bif Nat.blt m 67 then (bif Nat.blt m 65 then (8) else (bif Nat.blt m 66 then (8) else (8))) else (bif Nat.blt m 69 then (bif Nat.blt m 68 then (8) else (8)) else (bif Nat.blt m 70 then (8) else (8))))) else (bif Nat.blt m 78 then (bif Nat.blt m 74 then (bif Nat.blt m 72 then (8) else (bif Nat.blt m 73 then (8) else (8))) else (bif Nat.blt m 76 then (bif Nat.blt m 75 then (0) else (0)) else (bif Nat.blt m 77 then (0) else (0)))) else (bif Nat.blt m 81 then (bif Nat.blt m 79 then (0) else (bif Nat.blt m 80 then (0) else (0))) else (bif Nat.blt m 83 then (bif Nat.blt m 82 then (0) else (0)) else (bif Nat.blt m 84 then (0) else (0)))))) else (bif Nat.blt m 99 then (bif Nat.blt m 92 then (bif Nat.blt m 88 then (bif Nat.blt m 86 then (0) else (bif Nat.blt m 87 then (0) else (0))) else (bif Nat.blt m 90 then (bif Nat.blt m 89 then (0) else (0)) else (bif Nat.blt m 91 then (0) else (0)))) else (bif Nat.blt m 95 then (bif Nat.blt m 93 then (0) else (bif Nat.blt m 94 then (0) else (0))) else (bif Nat.blt m 97 then (bif Nat.blt m 96 then (0) else (0)) else (bif Nat.blt m 98 then (0) else (0))))) else (bif Nat.blt m 106 then (bif Nat.blt m 102 then (bif Nat.blt m 100 then (0) else (bif Nat.blt m 101 then (0) else (0))) else (bif Nat.blt m 104 then (bif Nat.blt m 103 then (0) else (0)) else (bif Nat.blt m 105 then (0) else (0)))) else (bif Nat.blt m 110 then (bif Nat.blt m 108 then (bif Nat.blt m 107 then (0) else (0)) else (bif Nat.blt m 109 then (0) else (0))) else (bif Nat.blt m 112 then (bif Nat.blt m 111 then (0) else (0)) else (bif Nat.blt m 113 then (0) else (0)))))))) else (bif Nat.blt m 171 then (bif Nat.blt m 142 then (bif Nat.blt m 128 then (bif Nat.blt m 121 then (bif Nat.blt m 117 then (bif Nat.blt m 115 then (0) else (bif Nat.blt m 116 then (0) else (0))) else (bif Nat.blt m 119 then (bif Nat.blt m 118 then (0) else (0)) else (bif Nat.blt m 120 then (0) else (0)))) else (bif Nat.blt m 124 then (bif Nat.blt m 122 then (0) else (bif Nat.blt m 123 then (0) else (0))) else (bif Nat.blt m 126 then (bif Nat.blt m 125 then (0) else (0)) else (bif Nat.blt m 127 then (0) else (0))))) else (bif Nat.blt m 135 then (bif Nat.blt m 131 then (bif Nat.blt m 129 then (10) else (bif Nat.blt m 130 then (10) else (10))) else (bif Nat.blt m 133 then (bif Nat.blt m 132 then (10) else (10)) else (bif Nat.blt m 134 then (10) else (10)))) else (bif Nat.blt m 138 then (bif Nat.blt m 136 then (10) else (bif Nat.blt m 137 then (10) else (10))) else (bif Nat.blt m 140 then (bif Nat.blt m 139 then (10) else (10)) else (bif Nat.blt m 141 then (10) else (10)))))) else (bif Nat.blt m 156 then (bif Nat.blt m 149 then (bif Nat.blt m 145 then (bif Nat.blt m 143 then (10) else (bif Nat.blt m 144 then (10) else (10))) else (bif Nat.blt m 147 then (bif Nat.blt m 146 then (10) else (10)) else (bif Nat.blt m 148 then (10) else (10)))) else (bif Nat.blt m 152 then (bif Nat.blt m 150 then (10) else (bif Nat.blt m 151 then (10) else (10))) else (bif Nat.blt m 154 then (bif Nat.blt m 153 then (10) else (10)) else (bif Nat.blt m 155 then (10) else (10))))) else (bif Nat.blt m 163 then (bif Nat.blt m 159 then (bif Nat.blt m 157 then (10) else (bif Nat.blt m 158 then (10) else (10))) else (bif Nat.blt m 161 then (bif Nat.blt m 160 then (10) else (10)) else (bif Nat.blt m 162 then (10) else (10)))) else (bif Nat.blt m 167 then (bif Nat.blt m 165 then (bif Nat.blt m 164 then (10) else (10)) else (bif Nat.blt m 166 then (10) else (10))) else (bif Nat.blt m 169 then (bif Nat.blt m 168 then (10) else (10)) else (bif Nat.blt m 170 then (10) else (10))))))) else (bif Nat.blt m 199 then (bif Nat.blt m 185 then (bif Nat.blt m 178 then (bif Nat.blt m 174 then (bif Nat.blt m 172 then (10) else (bif Nat.blt m 173 then (10) else (10))) else (bif Nat.blt m 176 then (bif Nat.blt m 175 then (10) else (10)) else (bif Nat.blt m 177 then (10) else (10)))) else (bif Nat.blt m 181 then (bif Nat.blt m 179 then (10) else (bif Nat.blt m 180 then (10) else (10))) else (bif Nat.blt m 183 then (bif Nat.blt m 182 then (10) else (10)) else (bif Nat.blt m 184 then (10) else (10))))) else (bif Nat.blt m 192 then (bif Nat.blt m 188 then (bif Nat.blt m 186 then (10) else (bif Nat.blt m 187 then (10) else (10))) else (bif Nat.blt m 190 then (bif Nat.blt m 189 then (10) else (10)) else (bif Nat.blt m 191 then (10) else (10)))) else (bif Nat.blt m 195 then (bif Nat.blt m 193 then (10) else (bif Nat.blt m 194 then (10) else (10))) else (bif Nat.blt m 197 then (bif Nat.blt m 196 then (10) else (10)) else (bif Nat.blt m 198 then (10) else (10)))))) else (bif Nat.blt m 213 then (bif Nat.blt m 206 then (bif Nat.blt m 202 then (bif Nat.blt m 200 then (10) else (bif Nat.blt m 201 then (10) else (10))) else (bif Nat.blt m 204 then (bif Nat.blt m 203 then (10) else (10)) else (bif Nat.blt m 205 then (10) else (10)))) else (bif Nat.blt m 209 then (bif Nat.blt m 207 then (10) else (bif Nat.blt m 208 then (10) else (10))) else (bif Nat.blt m 211 then (bif Nat.blt m 210 then (10) else (10)) else (bif Nat.blt m 212 then (10) else (10))))) else (bif Nat.blt m 220 then (bif Nat.blt m 216 then (bif Nat.blt m 214 then (10) else (bif Nat.blt m 215 then (10) else (10))) else (bif Nat.blt m 218 then (bif Nat.blt m 217 then (10) else (10)) else (bif Nat.blt m 219 then (10) else (10)))) else (bif Nat.blt m 224 then (bif Nat.blt m 222 then (bif Nat.blt m 221 then (10) else (10)) else (bif Nat.blt m 223 then (10) else (11))) else (bif Nat.blt m 226 then (bif Nat.blt m 225 then (11) else (12)) else (bif Nat.blt m 227 then (12) else (9))))))))) else 0
def owS (t : Nat) : String := bif Nat.blt t 13 then (bif Nat.blt t 6 then (bif Nat.blt t 3 then (bif Nat.blt t 1 then (RX8) else (bif Nat.blt t 2 then (RX0) else (RX1))) else (bif Nat.blt t 4 then (RX2) else (bif Nat.blt t 5 then (RX3) else (RX4)))) else (bif Nat.blt t 9 then (bif Nat.blt t 7 then (RX5) else (bif Nat.blt t 8 then (RX6) else (RX7))) else (bif Nat.blt t 11 then (bif Nat.blt t 10 then (RL) else (RX9)) else (bif Nat.blt t 12 then (RJ6) else (RJ7))))) else ""
def retT (m : Nat) : Option FieldType := bif Nat.blt m 228 then (bif Nat.blt m 114 then (bif Nat.blt m 57 then (bif Nat.blt m 28 then (bif Nat.blt m 14 then (bif Nat.blt m 7 then (bif Nat.blt m 3 then (bif Nat.blt m 1 then (none) else (bif Nat.blt m 2 then (some .int) else (some .boolean))) else (bif Nat.blt m 5 then (bif Nat.blt m 4 then (some .int) else (some .int)) else (bif Nat.blt m 6 then (none) else (none)))) else (bif Nat.blt m 10 then (bif Nat.blt m 8 then (some .int) else (bif Nat.blt m 9 then (some .boolean) else (some .int))) else (bif Nat.blt m 12 then (bif Nat.blt m 11 then (some .int) else (some .int)) else (bif Nat.blt m 13 then (none) else (none))))) else (bif Nat.blt m 21 then (bif Nat.blt m 17 then (bif Nat.blt m 15 then (some .boolean) else (bif Nat.blt m 16 then (some .boolean) else (some .int))) else (bif Nat.blt m 19 then (bif Nat.blt m 18 then (some .int) else (none)) else (bif Nat.blt m 20 then (none) else (some .int)))) else (bif Nat.blt m 24 then (bif Nat.blt m 22 then (some .int) else (bif Nat.blt m 23 then (none) else (none))) else (bif Nat.blt m 26 then (bif Nat.blt m 25 then (none) else (some .boolean)) else (bif Nat.blt m 27 then (some .int) else (some .int)))))) else (bif Nat.blt m 42 then (bif Nat.blt m 35 then (bif Nat.blt m 31 then (bif Nat.blt m 29 then (some .boolean) else (bif Nat.blt m 30 then (none) else (some .int))) else (bif Nat.blt m 33 then (bif Nat.blt m 32 then (none) else (some .boolean)) else (bif Nat.blt m 34 then (some .int) else (some .boolean)))) else (bif Nat.blt m 38 then (bif Nat.blt m 36 then (some .boolean) else (bif Nat.blt m 37 then (none) else (some .int))) else (bif Nat.blt m 40 then (bif Nat.blt m 39 then (some .int) else (some .int)) else (bif Nat.blt m 41 then (some .boolean) else (some .boolean))))) else (bif Nat.blt m 49 then (bif Nat.blt m 45 then (bif Nat.blt m 43 then (none) else (bif Nat.blt m 44 then (some .boolean) else (none))) else (bif Nat.blt m 47 then (bif Nat.blt m 46 then (some .boolean) else (none)) else (bif Nat.blt m 48 then (some .int) else (some .int)))) else (bif Nat.blt m 53 then (bif Nat.blt m 51 then (bif Nat.blt m 50 then (some .int) else (some .int)) else (bif Nat.blt m 52 then (some .int) else (some .boolean))) else (bif Nat.blt m 55 then (bif Nat.blt m 54 then (some .int) else (some .int)) else (bif Nat.blt m 56 then (some .int) else (some .int))))))) else (bif Nat.blt m 85 then (bif Nat.blt m 71 then (bif Nat.blt m 64 then (bif Nat.blt m 60 then (bif Nat.blt m 58 then (some .int) else (bif Nat.blt m 59 then (none) else (some .int))) else (bif Nat.blt m 62 then (bif Nat.blt m 61 then (some .int) else (none)) else (bif Nat.blt m 63 then (some .int) else (none)))) else (bif Nat.blt m 67 then (bif Nat.blt m 65 then (some .boolean) else (bif Nat.blt m 66 then (none) else (some .boolean))) else (bif Nat.blt m 69 then (bif Nat.blt m 68 then (some .int) else (none)) else (bif Nat.blt m 70 then (none) else (none))))) else (bif Nat.blt m 78 then (bif Nat.blt m 74 then (bif Nat.blt m 72 then (none) else (bif Nat.blt m 73 then (none) else (none))) else (bif Nat.blt m 76 then (bif Nat.blt m 75 then (some .int) else (some .int)) else (bif Nat.blt m 77 then (some .int) else (some .long)))) else (bif Nat.blt m 81 then (bif Nat.blt m 79 then (some .int) else (bif Nat.blt m 80 then (some .int) else (some .int))) else (bif Nat.blt m 83 then (bif Nat.blt m 82 then (some .int) else (some .int)) else (bif Nat.blt m 84 then (some .int) else (some .int)))))) else (bif Nat.blt m 99 then (bif Nat.blt m 92 then (bif Nat.blt m 88 then (bif Nat.blt m 86 then (some .int) else (bif Nat.blt m 87 then (some .int) else (some .int))) else (bif Nat.blt m 90 then (bif Nat.blt m 89 then (some .int) else (some .int)) else (bif Nat.blt m 91 then (some .int) else (some .int)))) else (bif Nat.blt m 95 then (bif Nat.blt m 93 then (some .int) else (bif Nat.blt m 94 then (some .int) else (some .int))) else (bif Nat.blt m 97 then (bif Nat.blt m 96 then (some .int) else (some .int)) else (bif Nat.blt m 98 then (some .int) else (some .int))))) else (bif Nat.blt m 106 then (bif Nat.blt m 102 then (bif Nat.blt m 100 then (some .int) else (bif Nat.blt m 101 then (some .int) else (some .int))) else (bif Nat.blt m 104 then (bif Nat.blt m 103 then (some .int) else (some .int)) else (bif Nat.blt m 105 then (some .int) else (some .int)))) else (bif Nat.blt m 110 then (bif Nat.blt m 108 then (bif Nat.blt m 107 then (some .int) else (some .int)) else (bif Nat.blt m 109 then (some .int) else (some .int))) else (bif Nat.blt m 112 then (bif Nat.blt m 111 then (some .boolean) else (some .boolean)) else (bif Nat.blt m 113 then (some .boolean) else (some .boolean)))))))) else (bif Nat.blt m 171 then (bif Nat.blt m 142 then (bif Nat.blt m 128 then (bif Nat.blt m 121 then (bif Nat.blt m 117 then (bif Nat.blt m 115 then (some .boolean) else (bif Nat.blt m 116 then (some .int) else (some .int))) else (bif Nat.blt m 119 then (bif Nat.blt m 118 then (some .int) else (some .int)) else (bif Nat.blt m 120 then (some .int) else (some .int)))) else (bif Nat.blt m 124 then (bif Nat.blt m 122 then (some .int) else (bif Nat.blt m 123 then (some .boolean) else (some .int))) else (bif Nat.blt m 126 then (bif Nat.blt m 125 then (some .boolean) else (some .int)) else (bif Nat.blt m 127 then (some .int) else (some .int))))) else (bif Nat.blt m 135 then (bif Nat.blt m 131 then (bif Nat.blt m 129 then (some .boolean) else (bif Nat.blt m 130 then (some .int) else (none))) else (bif Nat.blt m 133 then (bif Nat.blt m 132 then (some .boolean) else (some .boolean)) else (bif Nat.blt m 134 then (some .int) else (some .int)))) else (bif Nat.blt m 138 then (bif Nat.blt m 136 then (some .int) else (bif Nat.blt m 137 then (some .boolean) else (some .int))) else (bif Nat.blt m 140 then (bif Nat.blt m 139 then (some .int) else (some .int)) else (bif Nat.blt m 141 then (some .int) else (some .int)))))) else (bif Nat.blt m 156 then (bif Nat.blt m 149 then (bif Nat.blt m 145 then (bif Nat.blt m 143 then (some .int) else (bif Nat.blt m 144 then (some .int) else (some .int))) else (bif Nat.blt m 147 then (bif Nat.blt m 146 then (some .int) else (some .int)) else (bif Nat.blt m 148 then (some .int) else (some .int)))) else (bif Nat.blt m 152 then (bif Nat.blt m 150 then (some .int) else (bif Nat.blt m 151 then (some .boolean) else (some .int))) else (bif Nat.blt m 154 then (bif Nat.blt m 153 then (some .int) else (some .int)) else (bif Nat.blt m 155 then (some .int) else (some .int))))) else (bif Nat.blt m 163 then (bif Nat.blt m 159 then (bif Nat.blt m 157 then (some .int) else (bif Nat.blt m 158 then (none) else (some .int))) else (bif Nat.blt m 161 then (bif Nat.blt m 160 then (some .int) else (some .boolean)) else (bif Nat.blt m 162 then (some .boolean) else (some .int)))) else (bif Nat.blt m 167 then (bif Nat.blt m 165 then (bif Nat.blt m 164 then (some .int) else (some .int)) else (bif Nat.blt m 166 then (some .int) else (some .int))) else (bif Nat.blt m 169 then (bif Nat.blt m 168 then (some .int) else (some .int)) else (bif Nat.blt m 170 then (some .int) else (some .int))))))) else (bif Nat.blt m 199 then (bif Nat.blt m 185 then (bif Nat.blt m 178 then (bif Nat.blt m 174 then (bif Nat.blt m 172 then (some .int) else (bif Nat.blt m 173 then (some .int) else (some .boolean))) else (bif Nat.blt m 176 then (bif Nat.blt m 175 then (some .int) else (some .int)) else (bif Nat.blt m 177 then (some .int) else (some .int)))) else (bif Nat.blt m 181 then (bif Nat.blt m 179 then (some .int) else (bif Nat.blt m 180 then (some .int) else (some .int))) else (bif Nat.blt m 183 then (bif Nat.blt m 182 then (some .boolean) else (some .boolean)) else (bif Nat.blt m 184 then (some .int) else (some .int))))) else (bif Nat.blt m 192 then (bif Nat.blt m 188 then (bif Nat.blt m 186 then (some .int) else (bif Nat.blt m 187 then (some .int) else (some .int))) else (bif Nat.blt m 190 then (bif Nat.blt m 189 then (none) else (some .int)) else (bif Nat.blt m 191 then (some .int) else (none)))) else (bif Nat.blt m 195 then (bif Nat.blt m 193 then (some .int) else (bif Nat.blt m 194 then (some .int) else (some .boolean))) else (bif Nat.blt m 197 then (bif Nat.blt m 196 then (some .boolean) else (some .int)) else (bif Nat.blt m 198 then (some .int) else (some .int)))))) else (bif Nat.blt m 213 then (bif Nat.blt m 206 then (bif Nat.blt m 202 then (bif Nat.blt m 200 then (some .int) else (bif Nat.blt m 201 then (some .int) else (some .int))) else (bif Nat.blt m 204 then (bif Nat.blt m 203 then (some .boolean) else (some .int)) else (bif Nat.blt m 205 then (some .int) else (some .int)))) else (bif Nat.blt m 209 then (bif Nat.blt m 207 then (some .int) else (bif Nat.blt m 208 then (some .long) else (some .int))) else (bif Nat.blt m 211 then (bif Nat.blt m 210 then (some .int) else (some .int)) else (bif Nat.blt m 212 then (some .int) else (some .int))))) else (bif Nat.blt m 220 then (bif Nat.blt m 216 then (bif Nat.blt m 214 then (some .int) else (bif Nat.blt m 215 then (some .int) else (some .int))) else (bif Nat.blt m 218 then (bif Nat.blt m 217 then (none) else (some .int)) else (bif Nat.blt m 219 then (some .int) else (some .int)))) else (bif Nat.blt m 224 then (bif Nat.blt m 222 then (bif Nat.blt m 221 then (some .int) else (some .int)) else (bif Nat.blt m 223 then (some .int) else (some .int))) else (bif Nat.blt m 226 then (bif Nat.blt m 225 then (some .int) else (none)) else (bif Nat.blt m 227 then (none) else (some .boolean))))))))) else none
def npr (m : Nat) : Nat := bif Nat.blt m 228 then (bif Nat.blt m 114 then (bif Nat.blt m 57 then (bif Nat.blt m 28 then (bif Nat.blt m 14 then (bif Nat.blt m 7 then (bif Nat.blt m 3 then (bif Nat.blt m 1 then (1) else (bif Nat.blt m 2 then (1) else (1))) else (bif Nat.blt m 5 then (bif Nat.blt m 4 then (3) else (1)) else (bif Nat.blt m 6 then (2) else (0)))) else (bif Nat.blt m 10 then (bif Nat.blt m 8 then (1) else (bif Nat.blt m 9 then (0) else (2))) else (bif Nat.blt m 12 then (bif Nat.blt m 11 then (1) else (2)) else (bif Nat.blt m 13 then (2) else (1))))) else (bif Nat.blt m 21 then (bif Nat.blt m 17 then (bif Nat.blt m 15 then (1) else (bif Nat.blt m 16 then (0) else (1))) else (bif Nat.blt m 19 then (bif Nat.blt m 18 then (1) else (2)) else (bif Nat.blt m 20 then (1) else (1)))) else (bif Nat.blt m 24 then (bif Nat.blt m 22 then (1) else (bif Nat.blt m 23 then (3) else (1))) else (bif Nat.blt m 26 then (bif Nat.blt m 25 then (4) else (2)) else (bif Nat.blt m 27 then (1) else (1)))))) else (bif Nat.blt m 42 then (bif Nat.blt m 35 then (bif Nat.blt m 31 then (bif Nat.blt m 29 then (0) else (bif Nat.blt m 30 then (1) else (2))) else (bif Nat.blt m 33 then (bif Nat.blt m 32 then (2) else (0)) else (bif Nat.blt m 34 then (0) else (1)))) else (bif Nat.blt m 38 then (bif Nat.blt m 36 then (2) else (bif Nat.blt m 37 then (2) else (3))) else (bif Nat.blt m 40 then (bif Nat.blt m 39 then (2) else (2)) else (bif Nat.blt m 41 then (5) else (5))))) else (bif Nat.blt m 49 then (bif Nat.blt m 45 then (bif Nat.blt m 43 then (1) else (bif Nat.blt m 44 then (0) else (2))) else (bif Nat.blt m 47 then (bif Nat.blt m 46 then (0) else (2)) else (bif Nat.blt m 48 then (1) else (1)))) else (bif Nat.blt m 53 then (bif Nat.blt m 51 then (bif Nat.blt m 50 then (2) else (1)) else (bif Nat.blt m 52 then (1) else (1))) else (bif Nat.blt m 55 then (bif Nat.blt m 54 then (0) else (1)) else (bif Nat.blt m 56 then (0) else (1))))))) else (bif Nat.blt m 85 then (bif Nat.blt m 71 then (bif Nat.blt m 64 then (bif Nat.blt m 60 then (bif Nat.blt m 58 then (2) else (bif Nat.blt m 59 then (1) else (1))) else (bif Nat.blt m 62 then (bif Nat.blt m 61 then (2) else (1)) else (bif Nat.blt m 63 then (1) else (0)))) else (bif Nat.blt m 67 then (bif Nat.blt m 65 then (0) else (bif Nat.blt m 66 then (1) else (1))) else (bif Nat.blt m 69 then (bif Nat.blt m 68 then (2) else (1)) else (bif Nat.blt m 70 then (1) else (1))))) else (bif Nat.blt m 78 then (bif Nat.blt m 74 then (bif Nat.blt m 72 then (1) else (bif Nat.blt m 73 then (1) else (1))) else (bif Nat.blt m 76 then (bif Nat.blt m 75 then (3) else (3)) else (bif Nat.blt m 77 then (5) else (2)))) else (bif Nat.blt m 81 then (bif Nat.blt m 79 then (1) else (bif Nat.blt m 80 then (2) else (2))) else (bif Nat.blt m 83 then (bif Nat.blt m 82 then (2) else (2)) else (bif Nat.blt m 84 then (3) else (3)))))) else (bif Nat.blt m 99 then (bif Nat.blt m 92 then (bif Nat.blt m 88 then (bif Nat.blt m 86 then (3) else (bif Nat.blt m 87 then (1) else (1))) else (bif Nat.blt m 90 then (bif Nat.blt m 89 then (0) else (0)) else (bif Nat.blt m 91 then (2) else (2)))) else (bif Nat.blt m 95 then (bif Nat.blt m 93 then (0) else (bif Nat.blt m 94 then (2) else (2))) else (bif Nat.blt m 97 then (bif Nat.blt m 96 then (2) else (1)) else (bif Nat.blt m 98 then (0) else (2))))) else (bif Nat.blt m 106 then (bif Nat.blt m 102 then (bif Nat.blt m 100 then (1) else (bif Nat.blt m 101 then (1) else (3))) else (bif Nat.blt m 104 then (bif Nat.blt m 103 then (2) else (1)) else (bif Nat.blt m 105 then (0) else (1)))) else (bif Nat.blt m 110 then (bif Nat.blt m 108 then (bif Nat.blt m 107 then (0) else (0)) else (bif Nat.blt m 109 then (1) else (1))) else (bif Nat.blt m 112 then (bif Nat.blt m 111 then (1) else (1)) else (bif Nat.blt m 113 then (1) else (2)))))))) else (bif Nat.blt m 171 then (bif Nat.blt m 142 then (bif Nat.blt m 128 then (bif Nat.blt m 121 then (bif Nat.blt m 117 then (bif Nat.blt m 115 then (2) else (bif Nat.blt m 116 then (1) else (0))) else (bif Nat.blt m 119 then (bif Nat.blt m 118 then (0) else (0)) else (bif Nat.blt m 120 then (1) else (1)))) else (bif Nat.blt m 124 then (bif Nat.blt m 122 then (1) else (bif Nat.blt m 123 then (2) else (2))) else (bif Nat.blt m 126 then (bif Nat.blt m 125 then (2) else (1)) else (bif Nat.blt m 127 then (2) else (2))))) else (bif Nat.blt m 135 then (bif Nat.blt m 131 then (bif Nat.blt m 129 then (3) else (bif Nat.blt m 130 then (1) else (4))) else (bif Nat.blt m 133 then (bif Nat.blt m 132 then (1) else (1)) else (bif Nat.blt m 134 then (1) else (1)))) else (bif Nat.blt m 138 then (bif Nat.blt m 136 then (1) else (bif Nat.blt m 137 then (2) else (1))) else (bif Nat.blt m 140 then (bif Nat.blt m 139 then (1) else (1)) else (bif Nat.blt m 141 then (3) else (2)))))) else (bif Nat.blt m 156 then (bif Nat.blt m 149 then (bif Nat.blt m 145 then (bif Nat.blt m 143 then (2) else (bif Nat.blt m 144 then (3) else (3))) else (bif Nat.blt m 147 then (bif Nat.blt m 146 then (2) else (2)) else (bif Nat.blt m 148 then (2) else (2)))) else (bif Nat.blt m 152 then (bif Nat.blt m 150 then (3) else (bif Nat.blt m 151 then (3) else (3))) else (bif Nat.blt m 154 then (bif Nat.blt m 153 then (3) else (1)) else (bif Nat.blt m 155 then (1) else (0))))) else (bif Nat.blt m 163 then (bif Nat.blt m 159 then (bif Nat.blt m 157 then (1) else (bif Nat.blt m 158 then (0) else (0))) else (bif Nat.blt m 161 then (bif Nat.blt m 160 then (2) else (0)) else (bif Nat.blt m 162 then (0) else (0)))) else (bif Nat.blt m 167 then (bif Nat.blt m 165 then (bif Nat.blt m 164 then (2) else (2)) else (bif Nat.blt m 166 then (1) else (1))) else (bif Nat.blt m 169 then (bif Nat.blt m 168 then (1) else (1)) else (bif Nat.blt m 170 then (1) else (1))))))) else (bif Nat.blt m 199 then (bif Nat.blt m 185 then (bif Nat.blt m 178 then (bif Nat.blt m 174 then (bif Nat.blt m 172 then (2) else (bif Nat.blt m 173 then (2) else (1))) else (bif Nat.blt m 176 then (bif Nat.blt m 175 then (1) else (1)) else (bif Nat.blt m 177 then (1) else (2)))) else (bif Nat.blt m 181 then (bif Nat.blt m 179 then (2) else (bif Nat.blt m 180 then (0) else (2))) else (bif Nat.blt m 183 then (bif Nat.blt m 182 then (4) else (4)) else (bif Nat.blt m 184 then (2) else (1))))) else (bif Nat.blt m 192 then (bif Nat.blt m 188 then (bif Nat.blt m 186 then (1) else (bif Nat.blt m 187 then (1) else (2))) else (bif Nat.blt m 190 then (bif Nat.blt m 189 then (1) else (2)) else (bif Nat.blt m 191 then (0) else (0)))) else (bif Nat.blt m 195 then (bif Nat.blt m 193 then (1) else (bif Nat.blt m 194 then (0) else (2))) else (bif Nat.blt m 197 then (bif Nat.blt m 196 then (2) else (0)) else (bif Nat.blt m 198 then (2) else (2)))))) else (bif Nat.blt m 213 then (bif Nat.blt m 206 then (bif Nat.blt m 202 then (bif Nat.blt m 200 then (1) else (bif Nat.blt m 201 then (1) else (1))) else (bif Nat.blt m 204 then (bif Nat.blt m 203 then (1) else (3)) else (bif Nat.blt m 205 then (1) else (3)))) else (bif Nat.blt m 209 then (bif Nat.blt m 207 then (5) else (bif Nat.blt m 208 then (2) else (1))) else (bif Nat.blt m 211 then (bif Nat.blt m 210 then (2) else (2)) else (bif Nat.blt m 212 then (1) else (3))))) else (bif Nat.blt m 220 then (bif Nat.blt m 216 then (bif Nat.blt m 214 then (2) else (bif Nat.blt m 215 then (1) else (2))) else (bif Nat.blt m 218 then (bif Nat.blt m 217 then (1) else (0)) else (bif Nat.blt m 219 then (1) else (1)))) else (bif Nat.blt m 224 then (bif Nat.blt m 222 then (bif Nat.blt m 221 then (0) else (0)) else (bif Nat.blt m 223 then (1) else (1))) else (bif Nat.blt m 226 then (bif Nat.blt m 225 then (1) else (2)) else (bif Nat.blt m 227 then (2) else (1))))))))) else 0
def TTc (ci k : Nat) : String × String × String × Bool := ((nth vwCl ci).map fun q => q.2.1 k).getD ("", "", "", false)
def flk : List (Nat × Nat × Nat × Nat × Nat) := [(0, 10, 7, 0, 353), (0, 16, 7, 1, 354), (0, 19, 7, 2, 355), (0, 25, 7, 3, 356), (0, 32, 7, 4, 357), (0, 39, 7, 5, 358), (0, 46, 7, 6, 359), (0, 53, 7, 7, 360), (0, 59, 7, 8, 361), (0, 63, 7, 9, 362), (0, 67, 7, 10, 363), (0, 70, 7, 11, 364), (0, 98, 4, 1, 342), (0, 110, 4, 0, 340), (0, 123, 5, 2, 186), (0, 127, 2, 2, 150), (0, 133, 2, 3, 154), (0, 145, 5, 3, 190), (0, 154, 5, 4, 195), (0, 163, 2, 4, 158), (0, 181, 2, 5, 163), (0, 188, 5, 5, 199), (0, 191, 6, 0, 315), (0, 205, 6, 1, 317), (0, 208, 5, 0, 180), (0, 211, 5, 1, 182), (0, 224, 1, 2, 229), (0, 227, 1, 4, 233), (0, 230, 1, 7, 238), (0, 233, 1, 3, 231), (0, 236, 1, 8, 240), (0, 246, 1, 5, 235), (0, 249, 2, 0, 142), (0, 252, 2, 1, 146), (0, 275, 3, 3, 273), (0, 281, 3, 1, 269), (0, 294, 4, 2, 344), (0, 318, 1, 1, 227), (0, 326, 3, 2, 271), (0, 329, 3, 0, 267), (0, 332, 5, 6, 201), (1, 9, 0, 0, 301), (1, 15, 0, 1, 302), (1, 18, 5, 4, 193), (1, 24, 5, 2, 184), (1, 28, 2, 4, 156), (2, 9, 1, 0, 225), (2, 15, 1, 1, 226), (2, 19, 1, 2, 228), (2, 22, 1, 3, 230), (2, 25, 1, 4, 232), (2, 28, 1, 5, 234), (2, 31, 1, 6, 236), (2, 34, 1, 7, 237), (2, 37, 1, 8, 239), (2, 40, 2, 5, 162), (2, 43, 2, 0, 140), (2, 46, 2, 1, 144), (2, 84, 2, 2, 149), (2, 87, 2, 3, 153), (3, 9, 2, 0, 139), (3, 15, 2, 1, 143), (3, 18, 2, 2, 147), (3, 22, 2, 3, 151), (3, 25, 2, 4, 155), (3, 28, 2, 5, 160), (4, 9, 3, 0, 266), (4, 15, 3, 1, 268), (4, 18, 3, 2, 270), (4, 22, 3, 3, 272), (4, 25, 3, 4, 274), (4, 28, 3, 5, 275), (4, 31, 3, 6, 276), (4, 34, 3, 7, 277), (4, 41, 5, 4, 194), (4, 70, 5, 3, 189), (4, 88, 5, 2, 185), (4, 114, 2, 2, 148), (4, 117, 2, 3, 152), (5, 9, 4, 0, 339), (5, 15, 4, 1, 341), (5, 19, 4, 2, 343), (6, 9, 2, 5, 161), (6, 28, 2, 0, 141), (6, 44, 2, 1, 145), (7, 9, 5, 0, 179), (7, 15, 5, 1, 181), (7, 20, 5, 2, 183), (7, 24, 5, 3, 188), (7, 28, 5, 4, 192), (7, 31, 5, 5, 197), (7, 34, 5, 6, 200), (7, 86, 2, 5, 164), (7, 103, 2, 4, 159), (8, 9, 6, 0, 314), (8, 15, 6, 1, 316), (8, 18, 6, 2, 318), (8, 22, 6, 3, 319), (8, 25, 6, 4, 320), (8, 97, 5, 4, 196), (8, 100, 5, 3, 191), (8, 103, 5, 2, 187), (8, 107, 2, 4, 157), (8, 130, 5, 5, 198), (10, 7, 8, 0, 1032), (10, 17, 8, 1, 1033), (10, 20, 8, 2, 1034), (10, 23, 8, 3, 1035), (10, 26, 8, 5, 1037), (10, 29, 8, 10, 1042), (10, 33, 8, 11, 1043), (10, 36, 8, 12, 1044), (10, 39, 8, 13, 1045), (10, 42, 8, 14, 1046), (10, 45, 8, 17, 1049), (10, 48, 8, 18, 1050), (10, 51, 8, 19, 1051), (10, 54, 8, 20, 1052), (10, 58, 8, 21, 1053), (10, 61, 8, 22, 1054), (10, 64, 8, 23, 1055), (10, 131, 8, 6, 1038), (10, 143, 8, 7, 1039), (10, 146, 8, 8, 1040), (10, 152, 8, 9, 1041), (10, 261, 8, 15, 1047), (10, 270, 8, 16, 1048), (10, 334, 8, 4, 1036)]
def mlk : List (Nat × Nat × Nat × Nat) := [(0, 75, 110, 394), (0, 79, 109, 398), (0, 83, 31, 402), (0, 87, 33, 413), (0, 91, 34, 421), (0, 94, 36, 426), (0, 102, 32, 434), (0, 106, 35, 435), (0, 120, 112, 454), (0, 130, 114, 462), (0, 136, 115, 465), (0, 139, 43, 529), (0, 142, 44, 533), (0, 148, 45, 542), (0, 151, 46, 546), (0, 157, 111, 559), (0, 160, 14, 563), (0, 166, 21, 567), (0, 169, 113, 585), (0, 172, 17, 589), (0, 175, 15, 593), (0, 178, 18, 597), (0, 184, 19, 606), (0, 194, 61, 615), (0, 197, 42, 627), (0, 201, 62, 636), (0, 214, 51, 750), (0, 217, 54, 755), (0, 220, 5, 469), (0, 239, 8, 764), (0, 242, 9, 513), (0, 255, 37, 777), (0, 261, 56, 801), (0, 264, 119, 812), (0, 268, 120, 821), (0, 271, 22, 829), (0, 278, 53, 882), (0, 284, 1, 891), (0, 287, 3, 908), (0, 291, 121, 920), (0, 295, 122, 937), (0, 299, 123, 941), (0, 303, 125, 949), (0, 306, 126, 953), (0, 310, 224, 962), (0, 315, 127, 963), (0, 319, 58, 972), (0, 323, 55, 991), (0, 335, 117, 1015), (0, 338, 118, 1019), (0, 341, 13, 816), (0, 343, 116, 817), (0, 346, 11, 924), (0, 350, 124, 945), (0, 353, 16, 957), (1, 33, 0, 895), (1, 37, 2, 899), (1, 47, 4, 912), (2, 49, 49, 473), (2, 55, 16, 488), (2, 63, 50, 495), (2, 66, 6, 499), (2, 69, 7, 503), (2, 72, 224, 507), (2, 77, 10, 517), (2, 80, 8, 521), (2, 90, 9, 928), (3, 37, 16, 575), (3, 41, 15, 601), (3, 45, 19, 576), (3, 49, 20, 571), (4, 37, 23, 833), (4, 46, 24, 855), (4, 50, 27, 871), (4, 60, 28, 878), (4, 64, 226, 837), (4, 73, 52, 840), (4, 77, 51, 846), (4, 80, 30, 847), (4, 84, 29, 851), (4, 92, 25, 859), (4, 96, 13, 863), (4, 102, 26, 864), (4, 105, 20, 868), (4, 108, 5, 869), (4, 120, 9, 870), (5, 22, 225, 406), (5, 28, 32, 417), (5, 32, 33, 425), (6, 15, 38, 780), (6, 21, 39, 787), (6, 24, 40, 791), (6, 32, 47, 783), (6, 47, 48, 790), (6, 50, 41, 794), (7, 44, 13, 632), (7, 48, 43, 537), (7, 52, 45, 550), (7, 55, 12, 551), (7, 59, 47, 477), (7, 68, 48, 484), (7, 71, 14, 754), (7, 75, 51, 844), (7, 78, 224, 845), (7, 83, 52, 886), (7, 89, 16, 759), (7, 93, 57, 806), (7, 97, 49, 810), (7, 106, 59, 976), (7, 109, 60, 981), (7, 112, 17, 988), (7, 115, 18, 989), (7, 118, 19, 990), (7, 123, 223, 984), (8, 28, 65, 640), (8, 32, 64, 741), (8, 36, 63, 644), (8, 41, 66, 649), (8, 45, 43, 701), (8, 50, 68, 702), (8, 55, 45, 712), (8, 58, 69, 713), (8, 63, 70, 719), (8, 68, 71, 724), (8, 73, 73, 737), (8, 86, 67, 706), (8, 90, 44, 710), (8, 94, 46, 717), (8, 112, 15, 728), (8, 115, 72, 729), (8, 119, 14, 733), (8, 123, 17, 734), (8, 127, 18, 735), (9, 13, 74, 390), (9, 17, 203, 1413), (9, 20, 75, 409), (9, 24, 205, 1423), (9, 25, 76, 430), (9, 29, 206, 1431), (9, 30, 77, 442), (9, 34, 207, 1435), (9, 35, 78, 446), (9, 39, 208, 1439), (9, 40, 79, 450), (9, 44, 209, 1443), (9, 45, 80, 458), (9, 48, 210, 1447), (9, 49, 81, 525), (9, 52, 147, 1107), (9, 53, 82, 538), (9, 56, 148, 1124), (9, 57, 83, 555), (9, 61, 149, 1133), (9, 62, 84, 581), (9, 65, 151, 1169), (9, 66, 85, 602), (9, 69, 152, 1185), (9, 70, 86, 607), (9, 73, 153, 1189), (9, 74, 87, 611), (9, 77, 154, 1194), (9, 78, 88, 619), (9, 82, 155, 1199), (9, 83, 89, 623), (9, 86, 162, 1203), (9, 87, 90, 746), (9, 90, 177, 1238), (9, 91, 91, 760), (9, 94, 178, 1247), (9, 95, 92, 765), (9, 98, 179, 1321), (9, 99, 93, 769), (9, 102, 180, 1325), (9, 103, 94, 773), (9, 106, 183, 1329), (9, 107, 95, 797), (9, 110, 187, 1341), (9, 111, 96, 825), (9, 114, 192, 1358), (9, 115, 97, 887), (9, 118, 196, 1381), (9, 119, 98, 904), (9, 122, 197, 1393), (9, 123, 99, 916), (9, 126, 200, 1397), (9, 127, 100, 929), (9, 130, 201, 1409), (9, 131, 101, 933), (9, 134, 212, 1451), (9, 135, 102, 958), (9, 138, 213, 1466), (9, 139, 103, 968), (9, 142, 218, 1471), (9, 143, 104, 995), (9, 146, 193, 1377), (9, 147, 105, 999), (9, 150, 219, 1491), (9, 151, 106, 1003), (9, 154, 220, 1495), (9, 155, 107, 1007), (9, 158, 221, 1499), (9, 159, 108, 1011), (9, 162, 222, 1503), (10, 68, 128, 1112), (10, 72, 135, 1149), (10, 76, 139, 1157), (10, 79, 140, 1161), (10, 83, 145, 1165), (10, 91, 129, 1116), (10, 94, 141, 1120), (10, 99, 142, 1129), (10, 102, 132, 1137), (10, 106, 131, 1141), (10, 110, 136, 1145), (10, 114, 146, 1153), (10, 117, 150, 1173), (10, 121, 143, 1177), (10, 124, 144, 1181), (10, 149, 156, 1218), (10, 155, 157, 1214), (10, 158, 159, 1234), (10, 161, 158, 1226), (10, 165, 160, 1230), (10, 169, 130, 1207), (10, 173, 161, 1210), (10, 176, 133, 1304), (10, 184, 163, 1300), (10, 187, 164, 1296), (10, 193, 168, 1252), (10, 196, 134, 1260), (10, 199, 171, 1268), (10, 202, 169, 1272), (10, 205, 167, 1276), (10, 208, 170, 1256), (10, 211, 137, 1288), (10, 214, 166, 1292), (10, 217, 172, 1264), (10, 221, 165, 1309), (10, 224, 173, 1280), (10, 227, 138, 1313), (10, 232, 176, 1243), (10, 237, 174, 1284), (10, 240, 175, 1317), (10, 243, 182, 1337), (10, 247, 181, 1333), (10, 252, 184, 1346), (10, 255, 185, 1350), (10, 258, 186, 1354), (10, 273, 189, 1372), (10, 276, 188, 1366), (10, 280, 191, 1362), (10, 285, 194, 1389), (10, 288, 195, 1385), (10, 291, 198, 1405), (10, 294, 199, 1401), (10, 299, 202, 1417), (10, 306, 204, 1427), (10, 316, 211, 1462), (10, 322, 214, 1479), (10, 325, 215, 1484), (10, 328, 216, 1475), (10, 331, 217, 1487), (10, 340, 190, 1508)]
def clk : List (Nat × Nat × Int32 × Nat) := [(4, 123, 1000000, 875), (7, 92, 1000000, 805), (7, 122, 1103515245, 980), (10, 266, 2147483647, 1370), (10, 321, 1103515245, 1483), (11, 264, 65536, 987), (11, 265, 1431655765, 510), (11, 266, 858993459, 511), (11, 267, 252645135, 512)]
def llk : List (Nat × Nat × Int64 × Nat) := [(0, 356, 1000000, 966), (0, 358, 12, 967), (9, 18, 4294967295, 1512), (10, 87, 99, 1111), (10, 89, 9, 1115), (10, 97, 5, 1128), (10, 127, 12, 1193), (10, 129, 255, 1198), (10, 135, 97, 1222), (10, 137, 122, 1223), (10, 139, 48, 1224), (10, 141, 57, 1225), (10, 230, 3, 1242), (10, 235, 11, 1251), (10, 250, 2, 1345), (10, 283, (-1), 1376), (10, 297, 7, 1420), (10, 302, 4, 1421), (10, 304, 40, 1422), (10, 309, 20, 1455), (10, 319, 1000000, 1470), (10, 338, 16, 1507)]
def sidx (k : Nat) : Nat := (nth [39, 53, 61, 66, 71] k).getD 0
def stx (k : Nat) : String := (nth ["point", "parish", "wants", "line", "cloud"] k).getD ""
def alk : List (Nat × Nat × Nat) := [(0, 114, 439), (3, 31, 580), (4, 54, 877), (7, 38, 631)]
def slk : List (Nat × Nat × Nat × Nat) := [(8, 76, 0, 653), (8, 82, 1, 663)]
theorem nth_mem {α : Type} : ∀ {l : List α} {n : Nat} {a : α}, nth l n = some a → a ∈ l
  | [], _, _, h => by cases h
  | _ :: _, 0, _, h => by cases h; exact List.mem_cons_self
  | _ :: l, n + 1, _, h => List.mem_cons_of_mem _ (nth_mem (l := l) h)
theorem mem_tbl {w : Cond} {i : Nat} (h : lw_tbl[i]? = some w) : w ∈ lw_tbl := List.mem_of_getElem? h
set_option maxRecDepth 100000 in
theorem flk_ok : ∀ q ∈ flk, lw_tbl[q.2.2.2.2]? = some (.fieldLink (owS q.1) q.2.1 (TTc q.2.2.1 q.2.2.2.1).1 (TTc q.2.2.1 q.2.2.2.1).2.1 (TTc q.2.2.1 q.2.2.2.1).2.2.1) := by decide +kernel
set_option maxRecDepth 100000 in
theorem mlk_ok : ∀ q ∈ mlk, lw_tbl[q.2.2.2]? = some (.methodLink (owS q.1) q.2.1 (yM q.2.2.1)) := by decide +kernel
set_option maxRecDepth 100000 in
theorem clk_ok : ∀ q ∈ clk, lw_tbl[q.2.2.2]? = some (.constant (owS q.1) q.2.1 q.2.2.1) := by decide +kernel
set_option maxRecDepth 100000 in
theorem llk_ok : ∀ q ∈ llk, lw_tbl[q.2.2.2]? = some (.constantLong (owS q.1) q.2.1 q.2.2.1) := by decide +kernel
set_option maxRecDepth 100000 in
theorem alk_ok : ∀ q ∈ alk, lw_tbl[q.2.2]? = some (.methodLink (owS q.1) q.2.1 arraycopyName) := by decide +kernel
set_option maxRecDepth 100000 in
theorem acp_ok : lw_tbl[441]? = some (.native arraycopyName) ∧ lw_tbl[440]? = some (.static arraycopyName) ∧ lw_tbl[110]? = some (.initialized "java/lang/System") := by decide +kernel
def mpl : List (Nat × Nat × Nat × Nat × Nat) := [(0, 898, 105, 897, 32), (1, 894, 105, 892, 893), (2, 902, 105, 901, 33), (3, 911, 105, 909, 910), (4, 915, 105, 914, 34), (5, 472, 103, 470, 471), (6, 502, 103, 501, 4), (7, 506, 103, 505, 5), (8, 524, 103, 522, 523), (9, 516, 103, 514, 515), (10, 520, 103, 519, 6), (11, 927, 103, 925, 926), (12, 554, 102, 552, 553), (13, 635, 102, 633, 634), (14, 566, 102, 564, 565), (15, 596, 102, 594, 595), (16, 491, 102, 489, 490), (17, 592, 102, 590, 591), (18, 600, 102, 598, 599), (19, 579, 102, 577, 578), (20, 574, 102, 572, 573), (21, 570, 102, 568, 569), (22, 832, 104, 830, 831), (23, 836, 104, 835, 24), (24, 858, 104, 857, 27), (25, 862, 104, 861, 28), (26, 867, 104, 866, 29), (27, 874, 104, 873, 30), (28, 881, 104, 880, 31), (29, 854, 104, 853, 26), (30, 850, 104, 849, 25), (31, 405, 107, 403, 404), (32, 420, 107, 418, 419), (33, 416, 107, 414, 415), (34, 424, 107, 422, 423), (35, 438, 107, 436, 437), (36, 429, 107, 427, 428), (37, 779, 117, 778, 0), (38, 782, 117, 781, 0), (39, 789, 117, 788, 0), (40, 793, 117, 792, 0), (41, 796, 117, 795, 0), (42, 630, 101, 628, 629), (43, 532, 101, 530, 531), (44, 536, 101, 534, 535), (45, 545, 101, 543, 544), (46, 549, 101, 547, 548), (47, 480, 101, 478, 479), (48, 487, 101, 485, 486), (49, 476, 101, 474, 475), (50, 498, 101, 496, 497), (51, 753, 101, 751, 752), (52, 843, 101, 841, 842), (53, 885, 101, 883, 884), (54, 758, 101, 756, 757), (55, 994, 101, 992, 993), (56, 804, 101, 802, 803), (57, 809, 101, 808, 20), (58, 975, 101, 973, 974), (59, 979, 101, 978, 41), (60, 983, 101, 982, 0), (61, 618, 106, 616, 617), (62, 639, 106, 637, 638), (63, 647, 106, 646, 10), (64, 744, 106, 743, 19), (65, 643, 106, 642, 9), (66, 652, 106, 651, 11), (67, 709, 106, 708, 13), (68, 705, 106, 704, 12), (69, 716, 106, 715, 14), (70, 722, 106, 721, 15), (71, 727, 106, 726, 16), (72, 732, 106, 731, 17), (73, 740, 106, 739, 18), (74, 393, 100, 391, 392), (75, 412, 100, 410, 411), (76, 433, 100, 431, 432), (77, 445, 100, 443, 444), (78, 449, 100, 447, 448), (79, 453, 100, 451, 452), (80, 461, 100, 459, 460), (81, 528, 100, 526, 527), (82, 541, 100, 539, 540), (83, 558, 100, 556, 557), (84, 584, 100, 582, 583), (85, 605, 100, 603, 604), (86, 610, 100, 608, 609), (87, 614, 100, 612, 613), (88, 622, 100, 620, 621), (89, 626, 100, 624, 625), (90, 749, 100, 747, 748), (91, 763, 100, 761, 762), (92, 768, 100, 766, 767), (93, 772, 100, 770, 771), (94, 776, 100, 774, 775), (95, 800, 100, 798, 799), (96, 828, 100, 826, 827), (97, 890, 100, 888, 889), (98, 907, 100, 905, 906), (99, 919, 100, 917, 918), (100, 932, 100, 930, 931), (101, 936, 100, 934, 935), (102, 961, 100, 959, 960), (103, 971, 100, 969, 970), (104, 998, 100, 996, 997), (105, 1002, 100, 1000, 1001), (106, 1006, 100, 1004, 1005), (107, 1010, 100, 1008, 1009), (108, 1014, 100, 1012, 1013), (109, 401, 100, 400, 1), (110, 397, 100, 396, 0), (111, 562, 100, 561, 7), (112, 457, 100, 456, 2), (113, 588, 100, 587, 8), (114, 464, 100, 463, 0), (115, 468, 100, 467, 3), (116, 820, 100, 819, 22), (117, 1018, 100, 1017, 42), (118, 1022, 100, 1021, 43), (119, 815, 100, 814, 21), (120, 824, 100, 823, 23), (121, 923, 100, 922, 35), (122, 940, 100, 939, 36), (123, 944, 100, 943, 37), (124, 948, 100, 947, 38), (125, 952, 100, 951, 39), (126, 956, 100, 955, 40), (127, 965, 100, 964, 0), (128, 1114, 108, 1113, 0), (129, 1119, 108, 1118, 44), (130, 1209, 108, 1208, 0), (131, 1144, 108, 1143, 48), (132, 1140, 108, 1139, 47), (133, 1307, 108, 1306, 77), (134, 1263, 108, 1262, 67), (135, 1152, 108, 1151, 50), (136, 1148, 108, 1147, 49), (137, 1291, 108, 1290, 73), (138, 1316, 108, 1315, 79), (139, 1160, 108, 1159, 52), (140, 1164, 108, 1163, 53), (141, 1123, 108, 1122, 45), (142, 1132, 108, 1131, 46), (143, 1180, 108, 1179, 56), (144, 1184, 108, 1183, 57), (145, 1168, 108, 1167, 54), (146, 1156, 108, 1155, 51), (147, 1110, 108, 1108, 1109), (148, 1127, 108, 1125, 1126), (149, 1136, 108, 1134, 1135), (150, 1176, 108, 1175, 55), (151, 1172, 108, 1170, 1171), (152, 1188, 108, 1186, 1187), (153, 1192, 108, 1190, 1191), (154, 1197, 108, 1195, 1196), (155, 1202, 108, 1200, 1201), (156, 1221, 108, 1220, 60), (157, 1217, 108, 1216, 59), (158, 1229, 108, 1228, 61), (159, 1237, 108, 1236, 63), (160, 1233, 108, 1232, 62), (161, 1213, 108, 1212, 58), (162, 1206, 108, 1204, 1205), (163, 1303, 108, 1302, 76), (164, 1299, 108, 1298, 75), (165, 1312, 108, 1311, 78), (166, 1295, 108, 1294, 74), (167, 1278, 108, 1277, 0), (168, 1255, 108, 1254, 65), (169, 1275, 108, 1274, 70), (170, 1259, 108, 1258, 66), (171, 1271, 108, 1270, 69), (172, 1267, 108, 1266, 68), (173, 1283, 108, 1282, 71), (174, 1287, 108, 1286, 72), (175, 1320, 108, 1319, 80), (176, 1246, 108, 1245, 64), (177, 1241, 108, 1239, 1240), (178, 1250, 108, 1248, 1249), (179, 1324, 108, 1322, 1323), (180, 1328, 108, 1326, 1327), (181, 1336, 108, 1335, 81), (182, 1340, 108, 1339, 82), (183, 1332, 108, 1330, 1331), (184, 1349, 108, 1348, 83), (185, 1353, 108, 1352, 84), (186, 1357, 108, 1356, 85), (187, 1344, 108, 1342, 1343), (188, 1369, 108, 1368, 87), (189, 1375, 108, 1374, 88), (190, 1511, 108, 1510, 98), (191, 1365, 108, 1364, 86), (192, 1361, 108, 1359, 1360), (193, 1380, 108, 1378, 1379), (194, 1392, 108, 1391, 90), (195, 1388, 108, 1387, 89), (196, 1384, 108, 1382, 1383), (197, 1396, 108, 1394, 1395), (198, 1408, 108, 1407, 92), (199, 1404, 108, 1403, 91), (200, 1400, 108, 1398, 1399), (201, 1412, 108, 1410, 1411), (202, 1419, 108, 1418, 0), (203, 1416, 108, 1414, 1415), (204, 1430, 108, 1429, 93), (205, 1426, 108, 1424, 1425), (206, 1434, 108, 1432, 1433), (207, 1438, 108, 1436, 1437), (208, 1442, 108, 1440, 1441), (209, 1446, 108, 1444, 1445), (210, 1450, 108, 1448, 1449), (211, 1465, 108, 1464, 94), (212, 1454, 108, 1452, 1453), (213, 1469, 108, 1467, 1468), (214, 1482, 108, 1481, 96), (215, 1486, 108, 1485, 0), (216, 1478, 108, 1477, 95), (217, 1490, 108, 1489, 97), (218, 1474, 108, 1472, 1473), (219, 1494, 108, 1492, 1493), (220, 1498, 108, 1496, 1497), (221, 1502, 108, 1500, 1501), (222, 1506, 108, 1504, 1505), (223, 986, 112, 985, 0), (224, 509, 112, 508, 0), (225, 408, 109, 407, 0), (226, 839, 109, 838, 0)]
/-- what the tables say of a method -/
def MOK (b : Nat) : Prop := Cond.code (yM b) (byt b) (nLo b) (retT b) ∈ lw_tbl ∧ Cond.initialized (yM b).cls ∈ lw_tbl ∧ (mcl b = 99 → Cond.static (yM b) ∈ lw_tbl) ∧ (mcl b ≠ 99 → Cond.instanceMethod (yM b) ∈ lw_tbl ∧ Cond.selects (yM b).cls (yM b) (yM b) ∈ lw_tbl ∧ (nth vwCl (mcl b)).map (fun r => r.1) = some (yM b).cls)
  ∧ ((yM b).cls ≠ "java/lang/invoke/MethodHandle" ∧ (yM b).cls ≠ "java/lang/invoke/VarHandle" ∧ (parseMethodDescriptor (yM b).desc).map (fun d => d.parameters.length) = some (npr b)) ∧ plainName (yM b).cls = true ∧ nLo b ≤ 40
theorem mok_s {b : Nat} (c i s : Nat) (h1 : lw_tbl[c]? = some (.code (yM b) (byt b) (nLo b) (retT b))) (h2 : (mcl b = 99 ∧ lw_tbl[i]? = some (.initialized (yM b).cls) ∧ lw_tbl[s]? = some (.static (yM b))) ∧ ((yM b).cls ≠ "java/lang/invoke/MethodHandle" ∧ (yM b).cls ≠ "java/lang/invoke/VarHandle" ∧ (parseMethodDescriptor (yM b).desc).map (fun d => d.parameters.length) = some (npr b)) ∧ plainName (yM b).cls = true ∧ nLo b ≤ 40) : MOK b :=
  ⟨mem_tbl h1, mem_tbl h2.1.2.1, fun _ => mem_tbl h2.1.2.2, fun h => absurd h2.1.1 h, h2.2.1, h2.2.2.1, h2.2.2.2⟩
theorem mok_v {b : Nat} (c i s z : Nat) (h1 : lw_tbl[c]? = some (.code (yM b) (byt b) (nLo b) (retT b))) (h2 : (mcl b ≠ 99 ∧ lw_tbl[i]? = some (.initialized (yM b).cls) ∧ lw_tbl[s]? = some (.instanceMethod (yM b)) ∧ lw_tbl[z]? = some (.selects (yM b).cls (yM b) (yM b)) ∧ (nth vwCl (mcl b)).map (fun r => r.1) = some (yM b).cls) ∧ ((yM b).cls ≠ "java/lang/invoke/MethodHandle" ∧ (yM b).cls ≠ "java/lang/invoke/VarHandle" ∧ (parseMethodDescriptor (yM b).desc).map (fun d => d.parameters.length) = some (npr b)) ∧ plainName (yM b).cls = true ∧ nLo b ≤ 40) : MOK b :=
  ⟨mem_tbl h1, mem_tbl h2.1.2.1, fun h => absurd h h2.1.1, fun _ => ⟨mem_tbl h2.1.2.2.1, mem_tbl h2.1.2.2.2.1, h2.1.2.2.2.2⟩, h2.2.1, h2.2.2.1, h2.2.2.2⟩
set_option maxRecDepth 100000 in
theorem mk_0 : MOK 0 := mok_v 898 105 897 32 rfl (by decide +kernel)
set_option maxRecDepth 100000 in
theorem mk_1 : MOK 1 := mok_v 894 105 892 893 rfl (by decide +kernel)
set_option maxRecDepth 100000 in
theorem mk_2 : MOK 2 := mok_v 902 105 901 33 rfl (by decide +kernel)
set_option maxRecDepth 100000 in
theorem mk_3 : MOK 3 := mok_v 911 105 909 910 rfl (by decide +kernel)
set_option maxRecDepth 100000 in
theorem mk_4 : MOK 4 := mok_v 915 105 914 34 rfl (by decide +kernel)
set_option maxRecDepth 100000 in
theorem mk_5 : MOK 5 := mok_v 472 103 470 471 rfl (by decide +kernel)
set_option maxRecDepth 100000 in
theorem mk_6 : MOK 6 := mok_v 502 103 501 4 rfl (by decide +kernel)
set_option maxRecDepth 100000 in
theorem mk_7 : MOK 7 := mok_v 506 103 505 5 rfl (by decide +kernel)
set_option maxRecDepth 100000 in
theorem mk_8 : MOK 8 := mok_v 524 103 522 523 rfl (by decide +kernel)
set_option maxRecDepth 100000 in
theorem mk_9 : MOK 9 := mok_v 516 103 514 515 rfl (by decide +kernel)
set_option maxRecDepth 100000 in
theorem mk_10 : MOK 10 := mok_v 520 103 519 6 rfl (by decide +kernel)
set_option maxRecDepth 100000 in
theorem mk_11 : MOK 11 := mok_v 927 103 925 926 rfl (by decide +kernel)
set_option maxRecDepth 100000 in
theorem mk_12 : MOK 12 := mok_v 554 102 552 553 rfl (by decide +kernel)
set_option maxRecDepth 100000 in
theorem mk_13 : MOK 13 := mok_v 635 102 633 634 rfl (by decide +kernel)
set_option maxRecDepth 100000 in
theorem mk_14 : MOK 14 := mok_v 566 102 564 565 rfl (by decide +kernel)
set_option maxRecDepth 100000 in
theorem mk_15 : MOK 15 := mok_v 596 102 594 595 rfl (by decide +kernel)
set_option maxRecDepth 100000 in
theorem mk_16 : MOK 16 := mok_v 491 102 489 490 rfl (by decide +kernel)
set_option maxRecDepth 100000 in
theorem mk_17 : MOK 17 := mok_v 592 102 590 591 rfl (by decide +kernel)
set_option maxRecDepth 100000 in
theorem mk_18 : MOK 18 := mok_v 600 102 598 599 rfl (by decide +kernel)
set_option maxRecDepth 100000 in
theorem mk_19 : MOK 19 := mok_v 579 102 577 578 rfl (by decide +kernel)
set_option maxRecDepth 100000 in
theorem mk_20 : MOK 20 := mok_v 574 102 572 573 rfl (by decide +kernel)
set_option maxRecDepth 100000 in
theorem mk_21 : MOK 21 := mok_v 570 102 568 569 rfl (by decide +kernel)
set_option maxRecDepth 100000 in
theorem mk_22 : MOK 22 := mok_v 832 104 830 831 rfl (by decide +kernel)
set_option maxRecDepth 100000 in
theorem mk_23 : MOK 23 := mok_v 836 104 835 24 rfl (by decide +kernel)
set_option maxRecDepth 100000 in
theorem mk_24 : MOK 24 := mok_v 858 104 857 27 rfl (by decide +kernel)
set_option maxRecDepth 100000 in
theorem mk_25 : MOK 25 := mok_v 862 104 861 28 rfl (by decide +kernel)
set_option maxRecDepth 100000 in
theorem mk_26 : MOK 26 := mok_v 867 104 866 29 rfl (by decide +kernel)
set_option maxRecDepth 100000 in
theorem mk_27 : MOK 27 := mok_v 874 104 873 30 rfl (by decide +kernel)
set_option maxRecDepth 100000 in
theorem mk_28 : MOK 28 := mok_v 881 104 880 31 rfl (by decide +kernel)
set_option maxRecDepth 100000 in
theorem mk_29 : MOK 29 := mok_v 854 104 853 26 rfl (by decide +kernel)
set_option maxRecDepth 100000 in
theorem mk_30 : MOK 30 := mok_v 850 104 849 25 rfl (by decide +kernel)
set_option maxRecDepth 100000 in
theorem mk_31 : MOK 31 := mok_v 405 107 403 404 rfl (by decide +kernel)
set_option maxRecDepth 100000 in
theorem mk_32 : MOK 32 := mok_v 420 107 418 419 rfl (by decide +kernel)
set_option maxRecDepth 100000 in
theorem mk_33 : MOK 33 := mok_v 416 107 414 415 rfl (by decide +kernel)
set_option maxRecDepth 100000 in
theorem mk_34 : MOK 34 := mok_v 424 107 422 423 rfl (by decide +kernel)
set_option maxRecDepth 100000 in
theorem mk_35 : MOK 35 := mok_v 438 107 436 437 rfl (by decide +kernel)
set_option maxRecDepth 100000 in
theorem mk_36 : MOK 36 := mok_v 429 107 427 428 rfl (by decide +kernel)
set_option maxRecDepth 100000 in
theorem mk_37 : MOK 37 := mok_s 779 117 778 rfl (by decide +kernel)
set_option maxRecDepth 100000 in
theorem mk_38 : MOK 38 := mok_s 782 117 781 rfl (by decide +kernel)
set_option maxRecDepth 100000 in
theorem mk_39 : MOK 39 := mok_s 789 117 788 rfl (by decide +kernel)
set_option maxRecDepth 100000 in
theorem mk_40 : MOK 40 := mok_s 793 117 792 rfl (by decide +kernel)
set_option maxRecDepth 100000 in
theorem mk_41 : MOK 41 := mok_s 796 117 795 rfl (by decide +kernel)
set_option maxRecDepth 100000 in
theorem mk_42 : MOK 42 := mok_v 630 101 628 629 rfl (by decide +kernel)
set_option maxRecDepth 100000 in
theorem mk_43 : MOK 43 := mok_v 532 101 530 531 rfl (by decide +kernel)
set_option maxRecDepth 100000 in
theorem mk_44 : MOK 44 := mok_v 536 101 534 535 rfl (by decide +kernel)
set_option maxRecDepth 100000 in
theorem mk_45 : MOK 45 := mok_v 545 101 543 544 rfl (by decide +kernel)
set_option maxRecDepth 100000 in
theorem mk_46 : MOK 46 := mok_v 549 101 547 548 rfl (by decide +kernel)
set_option maxRecDepth 100000 in
theorem mk_47 : MOK 47 := mok_v 480 101 478 479 rfl (by decide +kernel)
set_option maxRecDepth 100000 in
theorem mk_48 : MOK 48 := mok_v 487 101 485 486 rfl (by decide +kernel)
set_option maxRecDepth 100000 in
theorem mk_49 : MOK 49 := mok_v 476 101 474 475 rfl (by decide +kernel)
set_option maxRecDepth 100000 in
theorem mk_50 : MOK 50 := mok_v 498 101 496 497 rfl (by decide +kernel)
set_option maxRecDepth 100000 in
theorem mk_51 : MOK 51 := mok_v 753 101 751 752 rfl (by decide +kernel)
set_option maxRecDepth 100000 in
theorem mk_52 : MOK 52 := mok_v 843 101 841 842 rfl (by decide +kernel)
set_option maxRecDepth 100000 in
theorem mk_53 : MOK 53 := mok_v 885 101 883 884 rfl (by decide +kernel)
set_option maxRecDepth 100000 in
theorem mk_54 : MOK 54 := mok_v 758 101 756 757 rfl (by decide +kernel)
set_option maxRecDepth 100000 in
theorem mk_55 : MOK 55 := mok_v 994 101 992 993 rfl (by decide +kernel)
set_option maxRecDepth 100000 in
theorem mk_56 : MOK 56 := mok_v 804 101 802 803 rfl (by decide +kernel)
set_option maxRecDepth 100000 in
theorem mk_57 : MOK 57 := mok_v 809 101 808 20 rfl (by decide +kernel)
set_option maxRecDepth 100000 in
theorem mk_58 : MOK 58 := mok_v 975 101 973 974 rfl (by decide +kernel)
set_option maxRecDepth 100000 in
theorem mk_59 : MOK 59 := mok_v 979 101 978 41 rfl (by decide +kernel)
set_option maxRecDepth 100000 in
theorem mk_60 : MOK 60 := mok_s 983 101 982 rfl (by decide +kernel)
set_option maxRecDepth 100000 in
theorem mk_61 : MOK 61 := mok_v 618 106 616 617 rfl (by decide +kernel)
set_option maxRecDepth 100000 in
theorem mk_62 : MOK 62 := mok_v 639 106 637 638 rfl (by decide +kernel)
set_option maxRecDepth 100000 in
theorem mk_63 : MOK 63 := mok_v 647 106 646 10 rfl (by decide +kernel)
set_option maxRecDepth 100000 in
theorem mk_64 : MOK 64 := mok_v 744 106 743 19 rfl (by decide +kernel)
set_option maxRecDepth 100000 in
theorem mk_65 : MOK 65 := mok_v 643 106 642 9 rfl (by decide +kernel)
set_option maxRecDepth 100000 in
theorem mk_66 : MOK 66 := mok_v 652 106 651 11 rfl (by decide +kernel)
set_option maxRecDepth 100000 in
theorem mk_67 : MOK 67 := mok_v 709 106 708 13 rfl (by decide +kernel)
set_option maxRecDepth 100000 in
theorem mk_68 : MOK 68 := mok_v 705 106 704 12 rfl (by decide +kernel)
set_option maxRecDepth 100000 in
theorem mk_69 : MOK 69 := mok_v 716 106 715 14 rfl (by decide +kernel)
set_option maxRecDepth 100000 in
theorem mk_70 : MOK 70 := mok_v 722 106 721 15 rfl (by decide +kernel)
set_option maxRecDepth 100000 in
theorem mk_71 : MOK 71 := mok_v 727 106 726 16 rfl (by decide +kernel)
set_option maxRecDepth 100000 in
theorem mk_72 : MOK 72 := mok_v 732 106 731 17 rfl (by decide +kernel)
set_option maxRecDepth 100000 in
theorem mk_73 : MOK 73 := mok_v 740 106 739 18 rfl (by decide +kernel)
set_option maxRecDepth 100000 in
theorem mk_74 : MOK 74 := mok_v 393 100 391 392 rfl (by decide +kernel)
set_option maxRecDepth 100000 in
theorem mk_75 : MOK 75 := mok_v 412 100 410 411 rfl (by decide +kernel)
set_option maxRecDepth 100000 in
theorem mk_76 : MOK 76 := mok_v 433 100 431 432 rfl (by decide +kernel)
set_option maxRecDepth 100000 in
theorem mk_77 : MOK 77 := mok_v 445 100 443 444 rfl (by decide +kernel)
set_option maxRecDepth 100000 in
theorem mk_78 : MOK 78 := mok_v 449 100 447 448 rfl (by decide +kernel)
set_option maxRecDepth 100000 in
theorem mk_79 : MOK 79 := mok_v 453 100 451 452 rfl (by decide +kernel)
set_option maxRecDepth 100000 in
theorem mk_80 : MOK 80 := mok_v 461 100 459 460 rfl (by decide +kernel)
set_option maxRecDepth 100000 in
theorem mk_81 : MOK 81 := mok_v 528 100 526 527 rfl (by decide +kernel)
set_option maxRecDepth 100000 in
theorem mk_82 : MOK 82 := mok_v 541 100 539 540 rfl (by decide +kernel)
set_option maxRecDepth 100000 in
theorem mk_83 : MOK 83 := mok_v 558 100 556 557 rfl (by decide +kernel)
set_option maxRecDepth 100000 in
theorem mk_84 : MOK 84 := mok_v 584 100 582 583 rfl (by decide +kernel)
set_option maxRecDepth 100000 in
theorem mk_85 : MOK 85 := mok_v 605 100 603 604 rfl (by decide +kernel)
set_option maxRecDepth 100000 in
theorem mk_86 : MOK 86 := mok_v 610 100 608 609 rfl (by decide +kernel)
set_option maxRecDepth 100000 in
theorem mk_87 : MOK 87 := mok_v 614 100 612 613 rfl (by decide +kernel)
set_option maxRecDepth 100000 in
theorem mk_88 : MOK 88 := mok_v 622 100 620 621 rfl (by decide +kernel)
set_option maxRecDepth 100000 in
theorem mk_89 : MOK 89 := mok_v 626 100 624 625 rfl (by decide +kernel)
set_option maxRecDepth 100000 in
theorem mk_90 : MOK 90 := mok_v 749 100 747 748 rfl (by decide +kernel)
set_option maxRecDepth 100000 in
theorem mk_91 : MOK 91 := mok_v 763 100 761 762 rfl (by decide +kernel)
set_option maxRecDepth 100000 in
theorem mk_92 : MOK 92 := mok_v 768 100 766 767 rfl (by decide +kernel)
set_option maxRecDepth 100000 in
theorem mk_93 : MOK 93 := mok_v 772 100 770 771 rfl (by decide +kernel)
set_option maxRecDepth 100000 in
theorem mk_94 : MOK 94 := mok_v 776 100 774 775 rfl (by decide +kernel)
set_option maxRecDepth 100000 in
theorem mk_95 : MOK 95 := mok_v 800 100 798 799 rfl (by decide +kernel)
set_option maxRecDepth 100000 in
theorem mk_96 : MOK 96 := mok_v 828 100 826 827 rfl (by decide +kernel)
set_option maxRecDepth 100000 in
theorem mk_97 : MOK 97 := mok_v 890 100 888 889 rfl (by decide +kernel)
set_option maxRecDepth 100000 in
theorem mk_98 : MOK 98 := mok_v 907 100 905 906 rfl (by decide +kernel)
set_option maxRecDepth 100000 in
theorem mk_99 : MOK 99 := mok_v 919 100 917 918 rfl (by decide +kernel)
set_option maxRecDepth 100000 in
theorem mk_100 : MOK 100 := mok_v 932 100 930 931 rfl (by decide +kernel)
set_option maxRecDepth 100000 in
theorem mk_101 : MOK 101 := mok_v 936 100 934 935 rfl (by decide +kernel)
set_option maxRecDepth 100000 in
theorem mk_102 : MOK 102 := mok_v 961 100 959 960 rfl (by decide +kernel)
set_option maxRecDepth 100000 in
theorem mk_103 : MOK 103 := mok_v 971 100 969 970 rfl (by decide +kernel)
set_option maxRecDepth 100000 in
theorem mk_104 : MOK 104 := mok_v 998 100 996 997 rfl (by decide +kernel)
set_option maxRecDepth 100000 in
theorem mk_105 : MOK 105 := mok_v 1002 100 1000 1001 rfl (by decide +kernel)
set_option maxRecDepth 100000 in
theorem mk_106 : MOK 106 := mok_v 1006 100 1004 1005 rfl (by decide +kernel)
set_option maxRecDepth 100000 in
theorem mk_107 : MOK 107 := mok_v 1010 100 1008 1009 rfl (by decide +kernel)
set_option maxRecDepth 100000 in
theorem mk_108 : MOK 108 := mok_v 1014 100 1012 1013 rfl (by decide +kernel)
set_option maxRecDepth 100000 in
theorem mk_109 : MOK 109 := mok_v 401 100 400 1 rfl (by decide +kernel)
set_option maxRecDepth 100000 in
theorem mk_110 : MOK 110 := mok_v 397 100 396 0 rfl (by decide +kernel)
set_option maxRecDepth 100000 in
theorem mk_111 : MOK 111 := mok_v 562 100 561 7 rfl (by decide +kernel)
set_option maxRecDepth 100000 in
theorem mk_112 : MOK 112 := mok_v 457 100 456 2 rfl (by decide +kernel)
set_option maxRecDepth 100000 in
theorem mk_113 : MOK 113 := mok_v 588 100 587 8 rfl (by decide +kernel)
set_option maxRecDepth 100000 in
theorem mk_114 : MOK 114 := mok_s 464 100 463 rfl (by decide +kernel)
set_option maxRecDepth 100000 in
theorem mk_115 : MOK 115 := mok_v 468 100 467 3 rfl (by decide +kernel)
set_option maxRecDepth 100000 in
theorem mk_116 : MOK 116 := mok_v 820 100 819 22 rfl (by decide +kernel)
set_option maxRecDepth 100000 in
theorem mk_117 : MOK 117 := mok_v 1018 100 1017 42 rfl (by decide +kernel)
set_option maxRecDepth 100000 in
theorem mk_118 : MOK 118 := mok_v 1022 100 1021 43 rfl (by decide +kernel)
set_option maxRecDepth 100000 in
theorem mk_119 : MOK 119 := mok_v 815 100 814 21 rfl (by decide +kernel)
set_option maxRecDepth 100000 in
theorem mk_120 : MOK 120 := mok_v 824 100 823 23 rfl (by decide +kernel)
set_option maxRecDepth 100000 in
theorem mk_121 : MOK 121 := mok_v 923 100 922 35 rfl (by decide +kernel)
set_option maxRecDepth 100000 in
theorem mk_122 : MOK 122 := mok_v 940 100 939 36 rfl (by decide +kernel)
set_option maxRecDepth 100000 in
theorem mk_123 : MOK 123 := mok_v 944 100 943 37 rfl (by decide +kernel)
set_option maxRecDepth 100000 in
theorem mk_124 : MOK 124 := mok_v 948 100 947 38 rfl (by decide +kernel)
set_option maxRecDepth 100000 in
theorem mk_125 : MOK 125 := mok_v 952 100 951 39 rfl (by decide +kernel)
set_option maxRecDepth 100000 in
theorem mk_126 : MOK 126 := mok_v 956 100 955 40 rfl (by decide +kernel)
set_option maxRecDepth 100000 in
theorem mk_127 : MOK 127 := mok_s 965 100 964 rfl (by decide +kernel)
set_option maxRecDepth 100000 in
theorem mk_128 : MOK 128 := mok_s 1114 108 1113 rfl (by decide +kernel)
set_option maxRecDepth 100000 in
theorem mk_129 : MOK 129 := mok_v 1119 108 1118 44 rfl (by decide +kernel)
set_option maxRecDepth 100000 in
theorem mk_130 : MOK 130 := mok_s 1209 108 1208 rfl (by decide +kernel)
set_option maxRecDepth 100000 in
theorem mk_131 : MOK 131 := mok_v 1144 108 1143 48 rfl (by decide +kernel)
set_option maxRecDepth 100000 in
theorem mk_132 : MOK 132 := mok_v 1140 108 1139 47 rfl (by decide +kernel)
set_option maxRecDepth 100000 in
theorem mk_133 : MOK 133 := mok_v 1307 108 1306 77 rfl (by decide +kernel)
set_option maxRecDepth 100000 in
theorem mk_134 : MOK 134 := mok_v 1263 108 1262 67 rfl (by decide +kernel)
set_option maxRecDepth 100000 in
theorem mk_135 : MOK 135 := mok_v 1152 108 1151 50 rfl (by decide +kernel)
set_option maxRecDepth 100000 in
theorem mk_136 : MOK 136 := mok_v 1148 108 1147 49 rfl (by decide +kernel)
set_option maxRecDepth 100000 in
theorem mk_137 : MOK 137 := mok_v 1291 108 1290 73 rfl (by decide +kernel)
set_option maxRecDepth 100000 in
theorem mk_138 : MOK 138 := mok_v 1316 108 1315 79 rfl (by decide +kernel)
set_option maxRecDepth 100000 in
theorem mk_139 : MOK 139 := mok_v 1160 108 1159 52 rfl (by decide +kernel)
set_option maxRecDepth 100000 in
theorem mk_140 : MOK 140 := mok_v 1164 108 1163 53 rfl (by decide +kernel)
set_option maxRecDepth 100000 in
theorem mk_141 : MOK 141 := mok_v 1123 108 1122 45 rfl (by decide +kernel)
set_option maxRecDepth 100000 in
theorem mk_142 : MOK 142 := mok_v 1132 108 1131 46 rfl (by decide +kernel)
set_option maxRecDepth 100000 in
theorem mk_143 : MOK 143 := mok_v 1180 108 1179 56 rfl (by decide +kernel)
set_option maxRecDepth 100000 in
theorem mk_144 : MOK 144 := mok_v 1184 108 1183 57 rfl (by decide +kernel)
set_option maxRecDepth 100000 in
theorem mk_145 : MOK 145 := mok_v 1168 108 1167 54 rfl (by decide +kernel)
set_option maxRecDepth 100000 in
theorem mk_146 : MOK 146 := mok_v 1156 108 1155 51 rfl (by decide +kernel)
set_option maxRecDepth 100000 in
theorem mk_147 : MOK 147 := mok_v 1110 108 1108 1109 rfl (by decide +kernel)
set_option maxRecDepth 100000 in
theorem mk_148 : MOK 148 := mok_v 1127 108 1125 1126 rfl (by decide +kernel)
set_option maxRecDepth 100000 in
theorem mk_149 : MOK 149 := mok_v 1136 108 1134 1135 rfl (by decide +kernel)
set_option maxRecDepth 100000 in
theorem mk_150 : MOK 150 := mok_v 1176 108 1175 55 rfl (by decide +kernel)
set_option maxRecDepth 100000 in
theorem mk_151 : MOK 151 := mok_v 1172 108 1170 1171 rfl (by decide +kernel)
set_option maxRecDepth 100000 in
theorem mk_152 : MOK 152 := mok_v 1188 108 1186 1187 rfl (by decide +kernel)
set_option maxRecDepth 100000 in
theorem mk_153 : MOK 153 := mok_v 1192 108 1190 1191 rfl (by decide +kernel)
set_option maxRecDepth 100000 in
theorem mk_154 : MOK 154 := mok_v 1197 108 1195 1196 rfl (by decide +kernel)
set_option maxRecDepth 100000 in
theorem mk_155 : MOK 155 := mok_v 1202 108 1200 1201 rfl (by decide +kernel)
set_option maxRecDepth 100000 in
theorem mk_156 : MOK 156 := mok_v 1221 108 1220 60 rfl (by decide +kernel)
set_option maxRecDepth 100000 in
theorem mk_157 : MOK 157 := mok_v 1217 108 1216 59 rfl (by decide +kernel)
set_option maxRecDepth 100000 in
theorem mk_158 : MOK 158 := mok_v 1229 108 1228 61 rfl (by decide +kernel)
set_option maxRecDepth 100000 in
theorem mk_159 : MOK 159 := mok_v 1237 108 1236 63 rfl (by decide +kernel)
set_option maxRecDepth 100000 in
theorem mk_160 : MOK 160 := mok_v 1233 108 1232 62 rfl (by decide +kernel)
set_option maxRecDepth 100000 in
theorem mk_161 : MOK 161 := mok_v 1213 108 1212 58 rfl (by decide +kernel)
set_option maxRecDepth 100000 in
theorem mk_162 : MOK 162 := mok_v 1206 108 1204 1205 rfl (by decide +kernel)
set_option maxRecDepth 100000 in
theorem mk_163 : MOK 163 := mok_v 1303 108 1302 76 rfl (by decide +kernel)
set_option maxRecDepth 100000 in
theorem mk_164 : MOK 164 := mok_v 1299 108 1298 75 rfl (by decide +kernel)
set_option maxRecDepth 100000 in
theorem mk_165 : MOK 165 := mok_v 1312 108 1311 78 rfl (by decide +kernel)
set_option maxRecDepth 100000 in
theorem mk_166 : MOK 166 := mok_v 1295 108 1294 74 rfl (by decide +kernel)
set_option maxRecDepth 100000 in
theorem mk_167 : MOK 167 := mok_s 1278 108 1277 rfl (by decide +kernel)
set_option maxRecDepth 100000 in
theorem mk_168 : MOK 168 := mok_v 1255 108 1254 65 rfl (by decide +kernel)
set_option maxRecDepth 100000 in
theorem mk_169 : MOK 169 := mok_v 1275 108 1274 70 rfl (by decide +kernel)
set_option maxRecDepth 100000 in
theorem mk_170 : MOK 170 := mok_v 1259 108 1258 66 rfl (by decide +kernel)
set_option maxRecDepth 100000 in
theorem mk_171 : MOK 171 := mok_v 1271 108 1270 69 rfl (by decide +kernel)
set_option maxRecDepth 100000 in
theorem mk_172 : MOK 172 := mok_v 1267 108 1266 68 rfl (by decide +kernel)
set_option maxRecDepth 100000 in
theorem mk_173 : MOK 173 := mok_v 1283 108 1282 71 rfl (by decide +kernel)
set_option maxRecDepth 100000 in
theorem mk_174 : MOK 174 := mok_v 1287 108 1286 72 rfl (by decide +kernel)
set_option maxRecDepth 100000 in
theorem mk_175 : MOK 175 := mok_v 1320 108 1319 80 rfl (by decide +kernel)
set_option maxRecDepth 100000 in
theorem mk_176 : MOK 176 := mok_v 1246 108 1245 64 rfl (by decide +kernel)
set_option maxRecDepth 100000 in
theorem mk_177 : MOK 177 := mok_v 1241 108 1239 1240 rfl (by decide +kernel)
set_option maxRecDepth 100000 in
theorem mk_178 : MOK 178 := mok_v 1250 108 1248 1249 rfl (by decide +kernel)
set_option maxRecDepth 100000 in
theorem mk_179 : MOK 179 := mok_v 1324 108 1322 1323 rfl (by decide +kernel)
set_option maxRecDepth 100000 in
theorem mk_180 : MOK 180 := mok_v 1328 108 1326 1327 rfl (by decide +kernel)
set_option maxRecDepth 100000 in
theorem mk_181 : MOK 181 := mok_v 1336 108 1335 81 rfl (by decide +kernel)
set_option maxRecDepth 100000 in
theorem mk_182 : MOK 182 := mok_v 1340 108 1339 82 rfl (by decide +kernel)
set_option maxRecDepth 100000 in
theorem mk_183 : MOK 183 := mok_v 1332 108 1330 1331 rfl (by decide +kernel)
set_option maxRecDepth 100000 in
theorem mk_184 : MOK 184 := mok_v 1349 108 1348 83 rfl (by decide +kernel)
set_option maxRecDepth 100000 in
theorem mk_185 : MOK 185 := mok_v 1353 108 1352 84 rfl (by decide +kernel)
set_option maxRecDepth 100000 in
theorem mk_186 : MOK 186 := mok_v 1357 108 1356 85 rfl (by decide +kernel)
set_option maxRecDepth 100000 in
theorem mk_187 : MOK 187 := mok_v 1344 108 1342 1343 rfl (by decide +kernel)
set_option maxRecDepth 100000 in
theorem mk_188 : MOK 188 := mok_v 1369 108 1368 87 rfl (by decide +kernel)
set_option maxRecDepth 100000 in
theorem mk_189 : MOK 189 := mok_v 1375 108 1374 88 rfl (by decide +kernel)
set_option maxRecDepth 100000 in
theorem mk_190 : MOK 190 := mok_v 1511 108 1510 98 rfl (by decide +kernel)
set_option maxRecDepth 100000 in
theorem mk_191 : MOK 191 := mok_v 1365 108 1364 86 rfl (by decide +kernel)
set_option maxRecDepth 100000 in
theorem mk_192 : MOK 192 := mok_v 1361 108 1359 1360 rfl (by decide +kernel)
set_option maxRecDepth 100000 in
theorem mk_193 : MOK 193 := mok_v 1380 108 1378 1379 rfl (by decide +kernel)
set_option maxRecDepth 100000 in
theorem mk_194 : MOK 194 := mok_v 1392 108 1391 90 rfl (by decide +kernel)
set_option maxRecDepth 100000 in
theorem mk_195 : MOK 195 := mok_v 1388 108 1387 89 rfl (by decide +kernel)
set_option maxRecDepth 100000 in
theorem mk_196 : MOK 196 := mok_v 1384 108 1382 1383 rfl (by decide +kernel)
set_option maxRecDepth 100000 in
theorem mk_197 : MOK 197 := mok_v 1396 108 1394 1395 rfl (by decide +kernel)
set_option maxRecDepth 100000 in
theorem mk_198 : MOK 198 := mok_v 1408 108 1407 92 rfl (by decide +kernel)
set_option maxRecDepth 100000 in
theorem mk_199 : MOK 199 := mok_v 1404 108 1403 91 rfl (by decide +kernel)
set_option maxRecDepth 100000 in
theorem mk_200 : MOK 200 := mok_v 1400 108 1398 1399 rfl (by decide +kernel)
set_option maxRecDepth 100000 in
theorem mk_201 : MOK 201 := mok_v 1412 108 1410 1411 rfl (by decide +kernel)
set_option maxRecDepth 100000 in
theorem mk_202 : MOK 202 := mok_s 1419 108 1418 rfl (by decide +kernel)
set_option maxRecDepth 100000 in
theorem mk_203 : MOK 203 := mok_v 1416 108 1414 1415 rfl (by decide +kernel)
set_option maxRecDepth 100000 in
theorem mk_204 : MOK 204 := mok_v 1430 108 1429 93 rfl (by decide +kernel)
set_option maxRecDepth 100000 in
theorem mk_205 : MOK 205 := mok_v 1426 108 1424 1425 rfl (by decide +kernel)
set_option maxRecDepth 100000 in
theorem mk_206 : MOK 206 := mok_v 1434 108 1432 1433 rfl (by decide +kernel)
set_option maxRecDepth 100000 in
theorem mk_207 : MOK 207 := mok_v 1438 108 1436 1437 rfl (by decide +kernel)
set_option maxRecDepth 100000 in
theorem mk_208 : MOK 208 := mok_v 1442 108 1440 1441 rfl (by decide +kernel)
set_option maxRecDepth 100000 in
theorem mk_209 : MOK 209 := mok_v 1446 108 1444 1445 rfl (by decide +kernel)
set_option maxRecDepth 100000 in
theorem mk_210 : MOK 210 := mok_v 1450 108 1448 1449 rfl (by decide +kernel)
set_option maxRecDepth 100000 in
theorem mk_211 : MOK 211 := mok_v 1465 108 1464 94 rfl (by decide +kernel)
set_option maxRecDepth 100000 in
theorem mk_212 : MOK 212 := mok_v 1454 108 1452 1453 rfl (by decide +kernel)
set_option maxRecDepth 100000 in
theorem mk_213 : MOK 213 := mok_v 1469 108 1467 1468 rfl (by decide +kernel)
set_option maxRecDepth 100000 in
theorem mk_214 : MOK 214 := mok_v 1482 108 1481 96 rfl (by decide +kernel)
set_option maxRecDepth 100000 in
theorem mk_215 : MOK 215 := mok_s 1486 108 1485 rfl (by decide +kernel)
set_option maxRecDepth 100000 in
theorem mk_216 : MOK 216 := mok_v 1478 108 1477 95 rfl (by decide +kernel)
set_option maxRecDepth 100000 in
theorem mk_217 : MOK 217 := mok_v 1490 108 1489 97 rfl (by decide +kernel)
set_option maxRecDepth 100000 in
theorem mk_218 : MOK 218 := mok_v 1474 108 1472 1473 rfl (by decide +kernel)
set_option maxRecDepth 100000 in
theorem mk_219 : MOK 219 := mok_v 1494 108 1492 1493 rfl (by decide +kernel)
set_option maxRecDepth 100000 in
theorem mk_220 : MOK 220 := mok_v 1498 108 1496 1497 rfl (by decide +kernel)
set_option maxRecDepth 100000 in
theorem mk_221 : MOK 221 := mok_v 1502 108 1500 1501 rfl (by decide +kernel)
set_option maxRecDepth 100000 in
theorem mk_222 : MOK 222 := mok_v 1506 108 1504 1505 rfl (by decide +kernel)
set_option maxRecDepth 100000 in
theorem mk_223 : MOK 223 := mok_s 986 112 985 rfl (by decide +kernel)
set_option maxRecDepth 100000 in
theorem mk_224 : MOK 224 := mok_s 509 112 508 rfl (by decide +kernel)
set_option maxRecDepth 100000 in
theorem mk_225 : MOK 225 := mok_s 408 109 407 rfl (by decide +kernel)
set_option maxRecDepth 100000 in
theorem mk_226 : MOK 226 := mok_s 839 109 838 rfl (by decide +kernel)
theorem mok_all (b : Nat) (h : b < 227) : MOK b := by
  rcases Nat.lt_or_ge b 113 with h1 | h1
  · rcases Nat.lt_or_ge b 56 with h2 | h2
    · rcases Nat.lt_or_ge b 28 with h3 | h3
      · rcases Nat.lt_or_ge b 14 with h4 | h4
        · rcases Nat.lt_or_ge b 7 with h5 | h5
          · rcases Nat.lt_or_ge b 3 with h6 | h6
            · rcases Nat.lt_or_ge b 1 with h7 | h7
              · obtain rfl : b = 0 := by omega
                exact mk_0
              · rcases Nat.lt_or_ge b 2 with h8 | h8
                · obtain rfl : b = 1 := by omega
                  exact mk_1
                · obtain rfl : b = 2 := by omega
                  exact mk_2
            · rcases Nat.lt_or_ge b 5 with h7 | h7
              · rcases Nat.lt_or_ge b 4 with h8 | h8
                · obtain rfl : b = 3 := by omega
                  exact mk_3
                · obtain rfl : b = 4 := by omega
                  exact mk_4
              · rcases Nat.lt_or_ge b 6 with h8 | h8
                · obtain rfl : b = 5 := by omega
                  exact mk_5
                · obtain rfl : b = 6 := by omega
                  exact mk_6
          · rcases Nat.lt_or_ge b 10 with h6 | h6
            · rcases Nat.lt_or_ge b 8 with h7 | h7
              · obtain rfl : b = 7 := by omega
                exact mk_7
              · rcases Nat.lt_or_ge b 9 with h8 | h8
                · obtain rfl : b = 8 := by omega
                  exact mk_8
                · obtain rfl : b = 9 := by omega
                  exact mk_9
            · rcases Nat.lt_or_ge b 12 with h7 | h7
              · rcases Nat.lt_or_ge b 11 with h8 | h8
                · obtain rfl : b = 10 := by omega
                  exact mk_10
                · obtain rfl : b = 11 := by omega
                  exact mk_11
              · rcases Nat.lt_or_ge b 13 with h8 | h8
                · obtain rfl : b = 12 := by omega
                  exact mk_12
                · obtain rfl : b = 13 := by omega
                  exact mk_13
        · rcases Nat.lt_or_ge b 21 with h5 | h5
          · rcases Nat.lt_or_ge b 17 with h6 | h6
            · rcases Nat.lt_or_ge b 15 with h7 | h7
              · obtain rfl : b = 14 := by omega
                exact mk_14
              · rcases Nat.lt_or_ge b 16 with h8 | h8
                · obtain rfl : b = 15 := by omega
                  exact mk_15
                · obtain rfl : b = 16 := by omega
                  exact mk_16
            · rcases Nat.lt_or_ge b 19 with h7 | h7
              · rcases Nat.lt_or_ge b 18 with h8 | h8
                · obtain rfl : b = 17 := by omega
                  exact mk_17
                · obtain rfl : b = 18 := by omega
                  exact mk_18
              · rcases Nat.lt_or_ge b 20 with h8 | h8
                · obtain rfl : b = 19 := by omega
                  exact mk_19
                · obtain rfl : b = 20 := by omega
                  exact mk_20
          · rcases Nat.lt_or_ge b 24 with h6 | h6
            · rcases Nat.lt_or_ge b 22 with h7 | h7
              · obtain rfl : b = 21 := by omega
                exact mk_21
              · rcases Nat.lt_or_ge b 23 with h8 | h8
                · obtain rfl : b = 22 := by omega
                  exact mk_22
                · obtain rfl : b = 23 := by omega
                  exact mk_23
            · rcases Nat.lt_or_ge b 26 with h7 | h7
              · rcases Nat.lt_or_ge b 25 with h8 | h8
                · obtain rfl : b = 24 := by omega
                  exact mk_24
                · obtain rfl : b = 25 := by omega
                  exact mk_25
              · rcases Nat.lt_or_ge b 27 with h8 | h8
                · obtain rfl : b = 26 := by omega
                  exact mk_26
                · obtain rfl : b = 27 := by omega
                  exact mk_27
      · rcases Nat.lt_or_ge b 42 with h4 | h4
        · rcases Nat.lt_or_ge b 35 with h5 | h5
          · rcases Nat.lt_or_ge b 31 with h6 | h6
            · rcases Nat.lt_or_ge b 29 with h7 | h7
              · obtain rfl : b = 28 := by omega
                exact mk_28
              · rcases Nat.lt_or_ge b 30 with h8 | h8
                · obtain rfl : b = 29 := by omega
                  exact mk_29
                · obtain rfl : b = 30 := by omega
                  exact mk_30
            · rcases Nat.lt_or_ge b 33 with h7 | h7
              · rcases Nat.lt_or_ge b 32 with h8 | h8
                · obtain rfl : b = 31 := by omega
                  exact mk_31
                · obtain rfl : b = 32 := by omega
                  exact mk_32
              · rcases Nat.lt_or_ge b 34 with h8 | h8
                · obtain rfl : b = 33 := by omega
                  exact mk_33
                · obtain rfl : b = 34 := by omega
                  exact mk_34
          · rcases Nat.lt_or_ge b 38 with h6 | h6
            · rcases Nat.lt_or_ge b 36 with h7 | h7
              · obtain rfl : b = 35 := by omega
                exact mk_35
              · rcases Nat.lt_or_ge b 37 with h8 | h8
                · obtain rfl : b = 36 := by omega
                  exact mk_36
                · obtain rfl : b = 37 := by omega
                  exact mk_37
            · rcases Nat.lt_or_ge b 40 with h7 | h7
              · rcases Nat.lt_or_ge b 39 with h8 | h8
                · obtain rfl : b = 38 := by omega
                  exact mk_38
                · obtain rfl : b = 39 := by omega
                  exact mk_39
              · rcases Nat.lt_or_ge b 41 with h8 | h8
                · obtain rfl : b = 40 := by omega
                  exact mk_40
                · obtain rfl : b = 41 := by omega
                  exact mk_41
        · rcases Nat.lt_or_ge b 49 with h5 | h5
          · rcases Nat.lt_or_ge b 45 with h6 | h6
            · rcases Nat.lt_or_ge b 43 with h7 | h7
              · obtain rfl : b = 42 := by omega
                exact mk_42
              · rcases Nat.lt_or_ge b 44 with h8 | h8
                · obtain rfl : b = 43 := by omega
                  exact mk_43
                · obtain rfl : b = 44 := by omega
                  exact mk_44
            · rcases Nat.lt_or_ge b 47 with h7 | h7
              · rcases Nat.lt_or_ge b 46 with h8 | h8
                · obtain rfl : b = 45 := by omega
                  exact mk_45
                · obtain rfl : b = 46 := by omega
                  exact mk_46
              · rcases Nat.lt_or_ge b 48 with h8 | h8
                · obtain rfl : b = 47 := by omega
                  exact mk_47
                · obtain rfl : b = 48 := by omega
                  exact mk_48
          · rcases Nat.lt_or_ge b 52 with h6 | h6
            · rcases Nat.lt_or_ge b 50 with h7 | h7
              · obtain rfl : b = 49 := by omega
                exact mk_49
              · rcases Nat.lt_or_ge b 51 with h8 | h8
                · obtain rfl : b = 50 := by omega
                  exact mk_50
                · obtain rfl : b = 51 := by omega
                  exact mk_51
            · rcases Nat.lt_or_ge b 54 with h7 | h7
              · rcases Nat.lt_or_ge b 53 with h8 | h8
                · obtain rfl : b = 52 := by omega
                  exact mk_52
                · obtain rfl : b = 53 := by omega
                  exact mk_53
              · rcases Nat.lt_or_ge b 55 with h8 | h8
                · obtain rfl : b = 54 := by omega
                  exact mk_54
                · obtain rfl : b = 55 := by omega
                  exact mk_55
    · rcases Nat.lt_or_ge b 84 with h3 | h3
      · rcases Nat.lt_or_ge b 70 with h4 | h4
        · rcases Nat.lt_or_ge b 63 with h5 | h5
          · rcases Nat.lt_or_ge b 59 with h6 | h6
            · rcases Nat.lt_or_ge b 57 with h7 | h7
              · obtain rfl : b = 56 := by omega
                exact mk_56
              · rcases Nat.lt_or_ge b 58 with h8 | h8
                · obtain rfl : b = 57 := by omega
                  exact mk_57
                · obtain rfl : b = 58 := by omega
                  exact mk_58
            · rcases Nat.lt_or_ge b 61 with h7 | h7
              · rcases Nat.lt_or_ge b 60 with h8 | h8
                · obtain rfl : b = 59 := by omega
                  exact mk_59
                · obtain rfl : b = 60 := by omega
                  exact mk_60
              · rcases Nat.lt_or_ge b 62 with h8 | h8
                · obtain rfl : b = 61 := by omega
                  exact mk_61
                · obtain rfl : b = 62 := by omega
                  exact mk_62
          · rcases Nat.lt_or_ge b 66 with h6 | h6
            · rcases Nat.lt_or_ge b 64 with h7 | h7
              · obtain rfl : b = 63 := by omega
                exact mk_63
              · rcases Nat.lt_or_ge b 65 with h8 | h8
                · obtain rfl : b = 64 := by omega
                  exact mk_64
                · obtain rfl : b = 65 := by omega
                  exact mk_65
            · rcases Nat.lt_or_ge b 68 with h7 | h7
              · rcases Nat.lt_or_ge b 67 with h8 | h8
                · obtain rfl : b = 66 := by omega
                  exact mk_66
                · obtain rfl : b = 67 := by omega
                  exact mk_67
              · rcases Nat.lt_or_ge b 69 with h8 | h8
                · obtain rfl : b = 68 := by omega
                  exact mk_68
                · obtain rfl : b = 69 := by omega
                  exact mk_69
        · rcases Nat.lt_or_ge b 77 with h5 | h5
          · rcases Nat.lt_or_ge b 73 with h6 | h6
            · rcases Nat.lt_or_ge b 71 with h7 | h7
              · obtain rfl : b = 70 := by omega
                exact mk_70
              · rcases Nat.lt_or_ge b 72 with h8 | h8
                · obtain rfl : b = 71 := by omega
                  exact mk_71
                · obtain rfl : b = 72 := by omega
                  exact mk_72
            · rcases Nat.lt_or_ge b 75 with h7 | h7
              · rcases Nat.lt_or_ge b 74 with h8 | h8
                · obtain rfl : b = 73 := by omega
                  exact mk_73
                · obtain rfl : b = 74 := by omega
                  exact mk_74
              · rcases Nat.lt_or_ge b 76 with h8 | h8
                · obtain rfl : b = 75 := by omega
                  exact mk_75
                · obtain rfl : b = 76 := by omega
                  exact mk_76
          · rcases Nat.lt_or_ge b 80 with h6 | h6
            · rcases Nat.lt_or_ge b 78 with h7 | h7
              · obtain rfl : b = 77 := by omega
                exact mk_77
              · rcases Nat.lt_or_ge b 79 with h8 | h8
                · obtain rfl : b = 78 := by omega
                  exact mk_78
                · obtain rfl : b = 79 := by omega
                  exact mk_79
            · rcases Nat.lt_or_ge b 82 with h7 | h7
              · rcases Nat.lt_or_ge b 81 with h8 | h8
                · obtain rfl : b = 80 := by omega
                  exact mk_80
                · obtain rfl : b = 81 := by omega
                  exact mk_81
              · rcases Nat.lt_or_ge b 83 with h8 | h8
                · obtain rfl : b = 82 := by omega
                  exact mk_82
                · obtain rfl : b = 83 := by omega
                  exact mk_83
      · rcases Nat.lt_or_ge b 98 with h4 | h4
        · rcases Nat.lt_or_ge b 91 with h5 | h5
          · rcases Nat.lt_or_ge b 87 with h6 | h6
            · rcases Nat.lt_or_ge b 85 with h7 | h7
              · obtain rfl : b = 84 := by omega
                exact mk_84
              · rcases Nat.lt_or_ge b 86 with h8 | h8
                · obtain rfl : b = 85 := by omega
                  exact mk_85
                · obtain rfl : b = 86 := by omega
                  exact mk_86
            · rcases Nat.lt_or_ge b 89 with h7 | h7
              · rcases Nat.lt_or_ge b 88 with h8 | h8
                · obtain rfl : b = 87 := by omega
                  exact mk_87
                · obtain rfl : b = 88 := by omega
                  exact mk_88
              · rcases Nat.lt_or_ge b 90 with h8 | h8
                · obtain rfl : b = 89 := by omega
                  exact mk_89
                · obtain rfl : b = 90 := by omega
                  exact mk_90
          · rcases Nat.lt_or_ge b 94 with h6 | h6
            · rcases Nat.lt_or_ge b 92 with h7 | h7
              · obtain rfl : b = 91 := by omega
                exact mk_91
              · rcases Nat.lt_or_ge b 93 with h8 | h8
                · obtain rfl : b = 92 := by omega
                  exact mk_92
                · obtain rfl : b = 93 := by omega
                  exact mk_93
            · rcases Nat.lt_or_ge b 96 with h7 | h7
              · rcases Nat.lt_or_ge b 95 with h8 | h8
                · obtain rfl : b = 94 := by omega
                  exact mk_94
                · obtain rfl : b = 95 := by omega
                  exact mk_95
              · rcases Nat.lt_or_ge b 97 with h8 | h8
                · obtain rfl : b = 96 := by omega
                  exact mk_96
                · obtain rfl : b = 97 := by omega
                  exact mk_97
        · rcases Nat.lt_or_ge b 105 with h5 | h5
          · rcases Nat.lt_or_ge b 101 with h6 | h6
            · rcases Nat.lt_or_ge b 99 with h7 | h7
              · obtain rfl : b = 98 := by omega
                exact mk_98
              · rcases Nat.lt_or_ge b 100 with h8 | h8
                · obtain rfl : b = 99 := by omega
                  exact mk_99
                · obtain rfl : b = 100 := by omega
                  exact mk_100
            · rcases Nat.lt_or_ge b 103 with h7 | h7
              · rcases Nat.lt_or_ge b 102 with h8 | h8
                · obtain rfl : b = 101 := by omega
                  exact mk_101
                · obtain rfl : b = 102 := by omega
                  exact mk_102
              · rcases Nat.lt_or_ge b 104 with h8 | h8
                · obtain rfl : b = 103 := by omega
                  exact mk_103
                · obtain rfl : b = 104 := by omega
                  exact mk_104
          · rcases Nat.lt_or_ge b 109 with h6 | h6
            · rcases Nat.lt_or_ge b 107 with h7 | h7
              · rcases Nat.lt_or_ge b 106 with h8 | h8
                · obtain rfl : b = 105 := by omega
                  exact mk_105
                · obtain rfl : b = 106 := by omega
                  exact mk_106
              · rcases Nat.lt_or_ge b 108 with h8 | h8
                · obtain rfl : b = 107 := by omega
                  exact mk_107
                · obtain rfl : b = 108 := by omega
                  exact mk_108
            · rcases Nat.lt_or_ge b 111 with h7 | h7
              · rcases Nat.lt_or_ge b 110 with h8 | h8
                · obtain rfl : b = 109 := by omega
                  exact mk_109
                · obtain rfl : b = 110 := by omega
                  exact mk_110
              · rcases Nat.lt_or_ge b 112 with h8 | h8
                · obtain rfl : b = 111 := by omega
                  exact mk_111
                · obtain rfl : b = 112 := by omega
                  exact mk_112
  · rcases Nat.lt_or_ge b 170 with h2 | h2
    · rcases Nat.lt_or_ge b 141 with h3 | h3
      · rcases Nat.lt_or_ge b 127 with h4 | h4
        · rcases Nat.lt_or_ge b 120 with h5 | h5
          · rcases Nat.lt_or_ge b 116 with h6 | h6
            · rcases Nat.lt_or_ge b 114 with h7 | h7
              · obtain rfl : b = 113 := by omega
                exact mk_113
              · rcases Nat.lt_or_ge b 115 with h8 | h8
                · obtain rfl : b = 114 := by omega
                  exact mk_114
                · obtain rfl : b = 115 := by omega
                  exact mk_115
            · rcases Nat.lt_or_ge b 118 with h7 | h7
              · rcases Nat.lt_or_ge b 117 with h8 | h8
                · obtain rfl : b = 116 := by omega
                  exact mk_116
                · obtain rfl : b = 117 := by omega
                  exact mk_117
              · rcases Nat.lt_or_ge b 119 with h8 | h8
                · obtain rfl : b = 118 := by omega
                  exact mk_118
                · obtain rfl : b = 119 := by omega
                  exact mk_119
          · rcases Nat.lt_or_ge b 123 with h6 | h6
            · rcases Nat.lt_or_ge b 121 with h7 | h7
              · obtain rfl : b = 120 := by omega
                exact mk_120
              · rcases Nat.lt_or_ge b 122 with h8 | h8
                · obtain rfl : b = 121 := by omega
                  exact mk_121
                · obtain rfl : b = 122 := by omega
                  exact mk_122
            · rcases Nat.lt_or_ge b 125 with h7 | h7
              · rcases Nat.lt_or_ge b 124 with h8 | h8
                · obtain rfl : b = 123 := by omega
                  exact mk_123
                · obtain rfl : b = 124 := by omega
                  exact mk_124
              · rcases Nat.lt_or_ge b 126 with h8 | h8
                · obtain rfl : b = 125 := by omega
                  exact mk_125
                · obtain rfl : b = 126 := by omega
                  exact mk_126
        · rcases Nat.lt_or_ge b 134 with h5 | h5
          · rcases Nat.lt_or_ge b 130 with h6 | h6
            · rcases Nat.lt_or_ge b 128 with h7 | h7
              · obtain rfl : b = 127 := by omega
                exact mk_127
              · rcases Nat.lt_or_ge b 129 with h8 | h8
                · obtain rfl : b = 128 := by omega
                  exact mk_128
                · obtain rfl : b = 129 := by omega
                  exact mk_129
            · rcases Nat.lt_or_ge b 132 with h7 | h7
              · rcases Nat.lt_or_ge b 131 with h8 | h8
                · obtain rfl : b = 130 := by omega
                  exact mk_130
                · obtain rfl : b = 131 := by omega
                  exact mk_131
              · rcases Nat.lt_or_ge b 133 with h8 | h8
                · obtain rfl : b = 132 := by omega
                  exact mk_132
                · obtain rfl : b = 133 := by omega
                  exact mk_133
          · rcases Nat.lt_or_ge b 137 with h6 | h6
            · rcases Nat.lt_or_ge b 135 with h7 | h7
              · obtain rfl : b = 134 := by omega
                exact mk_134
              · rcases Nat.lt_or_ge b 136 with h8 | h8
                · obtain rfl : b = 135 := by omega
                  exact mk_135
                · obtain rfl : b = 136 := by omega
                  exact mk_136
            · rcases Nat.lt_or_ge b 139 with h7 | h7
              · rcases Nat.lt_or_ge b 138 with h8 | h8
                · obtain rfl : b = 137 := by omega
                  exact mk_137
                · obtain rfl : b = 138 := by omega
                  exact mk_138
              · rcases Nat.lt_or_ge b 140 with h8 | h8
                · obtain rfl : b = 139 := by omega
                  exact mk_139
                · obtain rfl : b = 140 := by omega
                  exact mk_140
      · rcases Nat.lt_or_ge b 155 with h4 | h4
        · rcases Nat.lt_or_ge b 148 with h5 | h5
          · rcases Nat.lt_or_ge b 144 with h6 | h6
            · rcases Nat.lt_or_ge b 142 with h7 | h7
              · obtain rfl : b = 141 := by omega
                exact mk_141
              · rcases Nat.lt_or_ge b 143 with h8 | h8
                · obtain rfl : b = 142 := by omega
                  exact mk_142
                · obtain rfl : b = 143 := by omega
                  exact mk_143
            · rcases Nat.lt_or_ge b 146 with h7 | h7
              · rcases Nat.lt_or_ge b 145 with h8 | h8
                · obtain rfl : b = 144 := by omega
                  exact mk_144
                · obtain rfl : b = 145 := by omega
                  exact mk_145
              · rcases Nat.lt_or_ge b 147 with h8 | h8
                · obtain rfl : b = 146 := by omega
                  exact mk_146
                · obtain rfl : b = 147 := by omega
                  exact mk_147
          · rcases Nat.lt_or_ge b 151 with h6 | h6
            · rcases Nat.lt_or_ge b 149 with h7 | h7
              · obtain rfl : b = 148 := by omega
                exact mk_148
              · rcases Nat.lt_or_ge b 150 with h8 | h8
                · obtain rfl : b = 149 := by omega
                  exact mk_149
                · obtain rfl : b = 150 := by omega
                  exact mk_150
            · rcases Nat.lt_or_ge b 153 with h7 | h7
              · rcases Nat.lt_or_ge b 152 with h8 | h8
                · obtain rfl : b = 151 := by omega
                  exact mk_151
                · obtain rfl : b = 152 := by omega
                  exact mk_152
              · rcases Nat.lt_or_ge b 154 with h8 | h8
                · obtain rfl : b = 153 := by omega
                  exact mk_153
                · obtain rfl : b = 154 := by omega
                  exact mk_154
        · rcases Nat.lt_or_ge b 162 with h5 | h5
          · rcases Nat.lt_or_ge b 158 with h6 | h6
            · rcases Nat.lt_or_ge b 156 with h7 | h7
              · obtain rfl : b = 155 := by omega
                exact mk_155
              · rcases Nat.lt_or_ge b 157 with h8 | h8
                · obtain rfl : b = 156 := by omega
                  exact mk_156
                · obtain rfl : b = 157 := by omega
                  exact mk_157
            · rcases Nat.lt_or_ge b 160 with h7 | h7
              · rcases Nat.lt_or_ge b 159 with h8 | h8
                · obtain rfl : b = 158 := by omega
                  exact mk_158
                · obtain rfl : b = 159 := by omega
                  exact mk_159
              · rcases Nat.lt_or_ge b 161 with h8 | h8
                · obtain rfl : b = 160 := by omega
                  exact mk_160
                · obtain rfl : b = 161 := by omega
                  exact mk_161
          · rcases Nat.lt_or_ge b 166 with h6 | h6
            · rcases Nat.lt_or_ge b 164 with h7 | h7
              · rcases Nat.lt_or_ge b 163 with h8 | h8
                · obtain rfl : b = 162 := by omega
                  exact mk_162
                · obtain rfl : b = 163 := by omega
                  exact mk_163
              · rcases Nat.lt_or_ge b 165 with h8 | h8
                · obtain rfl : b = 164 := by omega
                  exact mk_164
                · obtain rfl : b = 165 := by omega
                  exact mk_165
            · rcases Nat.lt_or_ge b 168 with h7 | h7
              · rcases Nat.lt_or_ge b 167 with h8 | h8
                · obtain rfl : b = 166 := by omega
                  exact mk_166
                · obtain rfl : b = 167 := by omega
                  exact mk_167
              · rcases Nat.lt_or_ge b 169 with h8 | h8
                · obtain rfl : b = 168 := by omega
                  exact mk_168
                · obtain rfl : b = 169 := by omega
                  exact mk_169
    · rcases Nat.lt_or_ge b 198 with h3 | h3
      · rcases Nat.lt_or_ge b 184 with h4 | h4
        · rcases Nat.lt_or_ge b 177 with h5 | h5
          · rcases Nat.lt_or_ge b 173 with h6 | h6
            · rcases Nat.lt_or_ge b 171 with h7 | h7
              · obtain rfl : b = 170 := by omega
                exact mk_170
              · rcases Nat.lt_or_ge b 172 with h8 | h8
                · obtain rfl : b = 171 := by omega
                  exact mk_171
                · obtain rfl : b = 172 := by omega
                  exact mk_172
            · rcases Nat.lt_or_ge b 175 with h7 | h7
              · rcases Nat.lt_or_ge b 174 with h8 | h8
                · obtain rfl : b = 173 := by omega
                  exact mk_173
                · obtain rfl : b = 174 := by omega
                  exact mk_174
              · rcases Nat.lt_or_ge b 176 with h8 | h8
                · obtain rfl : b = 175 := by omega
                  exact mk_175
                · obtain rfl : b = 176 := by omega
                  exact mk_176
          · rcases Nat.lt_or_ge b 180 with h6 | h6
            · rcases Nat.lt_or_ge b 178 with h7 | h7
              · obtain rfl : b = 177 := by omega
                exact mk_177
              · rcases Nat.lt_or_ge b 179 with h8 | h8
                · obtain rfl : b = 178 := by omega
                  exact mk_178
                · obtain rfl : b = 179 := by omega
                  exact mk_179
            · rcases Nat.lt_or_ge b 182 with h7 | h7
              · rcases Nat.lt_or_ge b 181 with h8 | h8
                · obtain rfl : b = 180 := by omega
                  exact mk_180
                · obtain rfl : b = 181 := by omega
                  exact mk_181
              · rcases Nat.lt_or_ge b 183 with h8 | h8
                · obtain rfl : b = 182 := by omega
                  exact mk_182
                · obtain rfl : b = 183 := by omega
                  exact mk_183
        · rcases Nat.lt_or_ge b 191 with h5 | h5
          · rcases Nat.lt_or_ge b 187 with h6 | h6
            · rcases Nat.lt_or_ge b 185 with h7 | h7
              · obtain rfl : b = 184 := by omega
                exact mk_184
              · rcases Nat.lt_or_ge b 186 with h8 | h8
                · obtain rfl : b = 185 := by omega
                  exact mk_185
                · obtain rfl : b = 186 := by omega
                  exact mk_186
            · rcases Nat.lt_or_ge b 189 with h7 | h7
              · rcases Nat.lt_or_ge b 188 with h8 | h8
                · obtain rfl : b = 187 := by omega
                  exact mk_187
                · obtain rfl : b = 188 := by omega
                  exact mk_188
              · rcases Nat.lt_or_ge b 190 with h8 | h8
                · obtain rfl : b = 189 := by omega
                  exact mk_189
                · obtain rfl : b = 190 := by omega
                  exact mk_190
          · rcases Nat.lt_or_ge b 194 with h6 | h6
            · rcases Nat.lt_or_ge b 192 with h7 | h7
              · obtain rfl : b = 191 := by omega
                exact mk_191
              · rcases Nat.lt_or_ge b 193 with h8 | h8
                · obtain rfl : b = 192 := by omega
                  exact mk_192
                · obtain rfl : b = 193 := by omega
                  exact mk_193
            · rcases Nat.lt_or_ge b 196 with h7 | h7
              · rcases Nat.lt_or_ge b 195 with h8 | h8
                · obtain rfl : b = 194 := by omega
                  exact mk_194
                · obtain rfl : b = 195 := by omega
                  exact mk_195
              · rcases Nat.lt_or_ge b 197 with h8 | h8
                · obtain rfl : b = 196 := by omega
                  exact mk_196
                · obtain rfl : b = 197 := by omega
                  exact mk_197
      · rcases Nat.lt_or_ge b 212 with h4 | h4
        · rcases Nat.lt_or_ge b 205 with h5 | h5
          · rcases Nat.lt_or_ge b 201 with h6 | h6
            · rcases Nat.lt_or_ge b 199 with h7 | h7
              · obtain rfl : b = 198 := by omega
                exact mk_198
              · rcases Nat.lt_or_ge b 200 with h8 | h8
                · obtain rfl : b = 199 := by omega
                  exact mk_199
                · obtain rfl : b = 200 := by omega
                  exact mk_200
            · rcases Nat.lt_or_ge b 203 with h7 | h7
              · rcases Nat.lt_or_ge b 202 with h8 | h8
                · obtain rfl : b = 201 := by omega
                  exact mk_201
                · obtain rfl : b = 202 := by omega
                  exact mk_202
              · rcases Nat.lt_or_ge b 204 with h8 | h8
                · obtain rfl : b = 203 := by omega
                  exact mk_203
                · obtain rfl : b = 204 := by omega
                  exact mk_204
          · rcases Nat.lt_or_ge b 208 with h6 | h6
            · rcases Nat.lt_or_ge b 206 with h7 | h7
              · obtain rfl : b = 205 := by omega
                exact mk_205
              · rcases Nat.lt_or_ge b 207 with h8 | h8
                · obtain rfl : b = 206 := by omega
                  exact mk_206
                · obtain rfl : b = 207 := by omega
                  exact mk_207
            · rcases Nat.lt_or_ge b 210 with h7 | h7
              · rcases Nat.lt_or_ge b 209 with h8 | h8
                · obtain rfl : b = 208 := by omega
                  exact mk_208
                · obtain rfl : b = 209 := by omega
                  exact mk_209
              · rcases Nat.lt_or_ge b 211 with h8 | h8
                · obtain rfl : b = 210 := by omega
                  exact mk_210
                · obtain rfl : b = 211 := by omega
                  exact mk_211
        · rcases Nat.lt_or_ge b 219 with h5 | h5
          · rcases Nat.lt_or_ge b 215 with h6 | h6
            · rcases Nat.lt_or_ge b 213 with h7 | h7
              · obtain rfl : b = 212 := by omega
                exact mk_212
              · rcases Nat.lt_or_ge b 214 with h8 | h8
                · obtain rfl : b = 213 := by omega
                  exact mk_213
                · obtain rfl : b = 214 := by omega
                  exact mk_214
            · rcases Nat.lt_or_ge b 217 with h7 | h7
              · rcases Nat.lt_or_ge b 216 with h8 | h8
                · obtain rfl : b = 215 := by omega
                  exact mk_215
                · obtain rfl : b = 216 := by omega
                  exact mk_216
              · rcases Nat.lt_or_ge b 218 with h8 | h8
                · obtain rfl : b = 217 := by omega
                  exact mk_217
                · obtain rfl : b = 218 := by omega
                  exact mk_218
          · rcases Nat.lt_or_ge b 223 with h6 | h6
            · rcases Nat.lt_or_ge b 221 with h7 | h7
              · rcases Nat.lt_or_ge b 220 with h8 | h8
                · obtain rfl : b = 219 := by omega
                  exact mk_219
                · obtain rfl : b = 220 := by omega
                  exact mk_220
              · rcases Nat.lt_or_ge b 222 with h8 | h8
                · obtain rfl : b = 221 := by omega
                  exact mk_221
                · obtain rfl : b = 222 := by omega
                  exact mk_222
            · rcases Nat.lt_or_ge b 225 with h7 | h7
              · rcases Nat.lt_or_ge b 224 with h8 | h8
                · obtain rfl : b = 223 := by omega
                  exact mk_223
                · obtain rfl : b = 224 := by omega
                  exact mk_224
              · rcases Nat.lt_or_ge b 226 with h8 | h8
                · obtain rfl : b = 225 := by omega
                  exact mk_225
                · obtain rfl : b = 226 := by omega
                  exact mk_226
