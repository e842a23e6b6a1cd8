theorem ok_110 : (k_WF_Drawing_thinOfAll).all (okB 110) = true := by decide +kernel
theorem ok_111 : (k_WF_Ground_thinCells).all (okB 111) = true := by decide +kernel
theorem ok_112 : (k_WF_barred).all (okB 112) = true := by decide +kernel
theorem ok_113 : (k_WF_envies).all (okB 113) = true := by decide +kernel
theorem ok_114 : (k_WF_votes).all (okB 114) = true := by decide +kernel
theorem ok_115 : (k_WF_grow).all (okB 115) = true := by decide +kernel
theorem ok_116 : (k_WF_Drawing_growFromDoors).all (okB 116) = true := by decide +kernel
theorem ok_117 : (k_WF_Drawing_giveKept).all (okB 117) = true := by decide +kernel
theorem ok_118 : (k_WF_Drawing_giveDoors).all (okB 118) = true := by decide +kernel
theorem ok_119_0 : ((k_WF_Drawing_takeOne.drop 0).take 40).all (okB 119) = true := by decide +kernel
theorem ok_119_40 : (k_WF_Drawing_takeOne.drop 40).all (okB 119) = true := by decide +kernel
theorem ok_119 : (k_WF_Drawing_takeOne).all (okB 119) = true := all_dr 0 40 ok_119_0 (ok_119_40)
theorem ok_120 : (k_WF_better).all (okB 120) = true := by decide +kernel
theorem ok_121 : (k_WF_Mover_run).all (okB 121) = true := by decide +kernel
theorem ok_122_0 : ((k_WF_Mover_seek.drop 0).take 40).all (okB 122) = true := by decide +kernel
theorem ok_122_40 : ((k_WF_Mover_seek.drop 40).take 40).all (okB 122) = true := by decide +kernel
theorem ok_122_80 : (k_WF_Mover_seek.drop 80).all (okB 122) = true := by decide +kernel
theorem ok_122 : (k_WF_Mover_seek).all (okB 122) = true := all_dr 0 40 ok_122_0 (all_dr 40 40 ok_122_40 (ok_122_80))
theorem ok_123 : (k_WF_Mover_mayMove).all (okB 123) = true := by decide +kernel
theorem ok_124_0 : ((k_WF_Mover_tryOwners.drop 0).take 40).all (okB 124) = true := by decide +kernel
theorem ok_124_40 : (k_WF_Mover_tryOwners.drop 40).all (okB 124) = true := by decide +kernel
theorem ok_124 : (k_WF_Mover_tryOwners).all (okB 124) = true := all_dr 0 40 ok_124_0 (ok_124_40)
theorem ok_125 : (k_WF_Mover_improves).all (okB 125) = true := by decide +kernel
theorem ok_126 : (k_WF_Mover_shortBehind).all (okB 126) = true := by decide +kernel
theorem ok_127 : (k_WF_Mover_isLawful).all (okB 127) = true := by decide +kernel
theorem ok_128 : (k_WF_Ground_isFieldLawful).all (okB 128) = true := by decide +kernel
theorem ok_129 : (k_WF_Mover_hold).all (okB 129) = true := by decide +kernel
theorem ok_130_0 : ((k_WF_Mover_tryCells.drop 0).take 40).all (okB 130) = true := by decide +kernel
theorem ok_130_40 : ((k_WF_Mover_tryCells.drop 40).take 40).all (okB 130) = true := by decide +kernel
theorem ok_130_80 : (k_WF_Mover_tryCells.drop 80).all (okB 130) = true := by decide +kernel
theorem ok_130 : (k_WF_Mover_tryCells).all (okB 130) = true := all_dr 0 40 ok_130_0 (all_dr 40 40 ok_130_40 (ok_130_80))
theorem ok_131 : (k_WF_Mover_make).all (okB 131) = true := by decide +kernel
theorem ok_132 : (k_WF_can).all (okB 132) = true := by decide +kernel
theorem ok_133 : (k_WF_best).all (okB 133) = true := by decide +kernel
theorem ok_134 : (k_WF_Finder_isFew).all (okB 134) = true := by decide +kernel
theorem ok_135 : (k_WF_Finder_search).all (okB 135) = true := by decide +kernel
theorem ok_136 : (k_WF_Finder_gatherCells).all (okB 136) = true := by decide +kernel
theorem ok_137_0 : ((k_WF_Finder_gatherHopes.drop 0).take 40).all (okB 137) = true := by decide +kernel
theorem ok_137_40 : ((k_WF_Finder_gatherHopes.drop 40).take 40).all (okB 137) = true := by decide +kernel
theorem ok_137_80 : (k_WF_Finder_gatherHopes.drop 80).all (okB 137) = true := by decide +kernel
theorem ok_137 : (k_WF_Finder_gatherHopes).all (okB 137) = true := all_dr 0 40 ok_137_0 (all_dr 40 40 ok_137_40 (ok_137_80))
theorem ok_138 : (k_WF_Finder_mayHave).all (okB 138) = true := by decide +kernel
theorem ok_139 : (k_WF_Finder_descend).all (okB 139) = true := by decide +kernel
theorem ok_140_0 : ((k_WF_Finder_isHopeful.drop 0).take 40).all (okB 140) = true := by decide +kernel
theorem ok_140_40 : (k_WF_Finder_isHopeful.drop 40).all (okB 140) = true := by decide +kernel
theorem ok_140 : (k_WF_Finder_isHopeful).all (okB 140) = true := all_dr 0 40 ok_140_0 (ok_140_40)
theorem ok_141_0 : ((k_WF_Finder_weigh.drop 0).take 40).all (okB 141) = true := by decide +kernel
theorem ok_141_40 : ((k_WF_Finder_weigh.drop 40).take 40).all (okB 141) = true := by decide +kernel
theorem ok_141_80 : (k_WF_Finder_weigh.drop 80).all (okB 141) = true := by decide +kernel
theorem ok_141 : (k_WF_Finder_weigh).all (okB 141) = true := all_dr 0 40 ok_141_0 (all_dr 40 40 ok_141_40 (ok_141_80))
theorem ok_142 : (k_WF_Finder_envyPairs).all (okB 142) = true := by decide +kernel
theorem ok_143 : (k_WF_Finder_isBest).all (okB 143) = true := by decide +kernel
theorem ok_144 : (k_WF_Finder_areLawful).all (okB 144) = true := by decide +kernel
theorem ok_145 : (k_WF_Finder_turn).all (okB 145) = true := by decide +kernel
theorem ok_146 : (k_WF_stakes).all (okB 146) = true := by decide +kernel
theorem ok_147_0 : ((k_WF_Walker_walk.drop 0).take 40).all (okB 147) = true := by decide +kernel
theorem ok_147_40 : ((k_WF_Walker_walk.drop 40).take 40).all (okB 147) = true := by decide +kernel
theorem ok_147_80 : (k_WF_Walker_walk.drop 80).all (okB 147) = true := by decide +kernel
theorem ok_147 : (k_WF_Walker_walk).all (okB 147) = true := all_dr 0 40 ok_147_0 (all_dr 40 40 ok_147_40 (ok_147_80))
theorem ok_148 : (k_WF_Walker_mark).all (okB 148) = true := by decide +kernel
theorem ok_149 : (k_WF_Walker_turnAt).all (okB 149) = true := by decide +kernel
theorem ok_150 : (k_WF_Walker_isInField).all (okB 150) = true := by decide +kernel
theorem ok_151 : (k_WF_within).all (okB 151) = true := by decide +kernel
theorem ok_152 : (k_WF_Walker_area).all (okB 152) = true := by decide +kernel
theorem ok_153 : (k_WF_split).all (okB 153) = true := by decide +kernel
theorem ok_154_0 : ((k_WF_Splitter_take.drop 0).take 40).all (okB 154) = true := by decide +kernel
theorem ok_154_40 : (k_WF_Splitter_take.drop 40).all (okB 154) = true := by decide +kernel
theorem ok_154 : (k_WF_Splitter_take).all (okB 154) = true := all_dr 0 40 ok_154_0 (ok_154_40)
theorem ok_155_0 : ((k_WF_Splitter_search.drop 0).take 40).all (okB 155) = true := by decide +kernel
theorem ok_155_40 : (k_WF_Splitter_search.drop 40).all (okB 155) = true := by decide +kernel
theorem ok_155 : (k_WF_Splitter_search).all (okB 155) = true := all_dr 0 40 ok_155_0 (ok_155_40)
theorem ok_156 : (k_WF_Splitter_weigh).all (okB 156) = true := by decide +kernel
theorem ok_157 : (k_Integer_bitCount).all (okB 157) = true := by decide +kernel
theorem ok_158 : (k_WF_part).all (okB 158) = true := by decide +kernel
theorem ok_159 : (k_WF_corner).all (okB 159) = true := by decide +kernel
theorem ok_160 : (k_WF_Ground_corners).all (okB 160) = true := by decide +kernel
theorem ok_161 : (k_WF_Ditcher_isFull).all (okB 161) = true := by decide +kernel
theorem ok_162 : (k_WF_Ditcher_isTold).all (okB 162) = true := by decide +kernel
theorem ok_163 : (k_WF_Ditcher_tell).all (okB 163) = true := by decide +kernel
theorem ok_164 : (k_WF_clear).all (okB 164) = true := by decide +kernel
theorem ok_165 : (k_WF_ditches).all (okB 165) = true := by decide +kernel
theorem ok_166 : (k_WF_Ditcher_leastLength).all (okB 166) = true := by decide +kernel
theorem ok_167 : (k_WF_Ditcher_findWays).all (okB 167) = true := by decide +kernel
theorem ok_168 : (k_WF_Ditcher_isBorder).all (okB 168) = true := by decide +kernel
theorem ok_169_0 : ((k_WF_Ditcher_joinParts.drop 0).take 40).all (okB 169) = true := by decide +kernel
theorem ok_169_40 : (k_WF_Ditcher_joinParts.drop 40).all (okB 169) = true := by decide +kernel
theorem ok_169 : (k_WF_Ditcher_joinParts).all (okB 169) = true := all_dr 0 40 ok_169_0 (ok_169_40)
theorem ok_170 : (k_WF_Ditcher_joinTwo).all (okB 170) = true := by decide +kernel
theorem ok_171_0 : ((k_WF_Ditcher_settle.drop 0).take 40).all (okB 171) = true := by decide +kernel
theorem ok_171_40 : ((k_WF_Ditcher_settle.drop 40).take 40).all (okB 171) = true := by decide +kernel
theorem ok_171_80 : (k_WF_Ditcher_settle.drop 80).all (okB 171) = true := by decide +kernel
theorem ok_171 : (k_WF_Ditcher_settle).all (okB 171) = true := all_dr 0 40 ok_171_0 (all_dr 40 40 ok_171_40 (ok_171_80))
theorem ok_172 : (k_WF_Ditcher_level).all (okB 172) = true := by decide +kernel
theorem ok_173 : (k_WF_count).all (okB 173) = true := by decide +kernel
theorem ok_174 : (k_WF_Ground_keptCells).all (okB 174) = true := by decide +kernel
theorem ok_175 : (k_WF_trouble).all (okB 175) = true := by decide +kernel
theorem ok_176 : (k_WFLaw_stake).all (okB 176) = true := by decide +kernel
theorem ok_177 : (k_WF_stake).all (okB 177) = true := by decide +kernel
theorem ok_178 : (k_WF_Walker_numberOf).all (okB 178) = true := by decide +kernel
theorem ok_179_0 : ((k_WFModel_init.drop 0).take 40).all (okB 179) = true := by decide +kernel
theorem ok_179_40 : ((k_WFModel_init.drop 40).take 40).all (okB 179) = true := by decide +kernel
theorem ok_179_80 : (k_WFModel_init.drop 80).all (okB 179) = true := by decide +kernel
theorem ok_179 : (k_WFModel_init).all (okB 179) = true := all_dr 0 40 ok_179_0 (all_dr 40 40 ok_179_40 (ok_179_80))
theorem ok_180 : (k_WFModel_Stop_init).all (okB 180) = true := by decide +kernel
theorem ok_181 : (k_RuntimeException_init).all (okB 181) = true := by decide +kernel
theorem ok_182 : (k_Exception_init).all (okB 182) = true := by decide +kernel
theorem ok_183 : (k_Throwable_init).all (okB 183) = true := by decide +kernel
theorem ok_184 : (k_WFModel_thrown).all (okB 184) = true := by decide +kernel
theorem ok_185_0 : ((k_WFModel_feed.drop 0).take 40).all (okB 185) = true := by decide +kernel
theorem ok_185_40 : (k_WFModel_feed.drop 40).all (okB 185) = true := by decide +kernel
theorem ok_185 : (k_WFModel_feed).all (okB 185) = true := all_dr 0 40 ok_185_0 (ok_185_40)
theorem ok_186_0 : ((k_WFModel_book.drop 0).take 40).all (okB 186) = true := by decide +kernel
theorem ok_186_40 : (k_WFModel_book.drop 40).all (okB 186) = true := by decide +kernel
theorem ok_186 : (k_WFModel_book).all (okB 186) = true := all_dr 0 40 ok_186_0 (ok_186_40)
theorem ok_187 : (k_WFModel_refused).all (okB 187) = true := by decide +kernel
theorem ok_188 : (k_WFModel_Book_init).all (okB 188) = true := by decide +kernel
theorem ok_189_0 : ((k_WFModel_next.drop 0).take 40).all (okB 189) = true := by decide +kernel
theorem ok_189_40 : ((k_WFModel_next.drop 40).take 40).all (okB 189) = true := by decide +kernel
theorem ok_189_80 : ((k_WFModel_next.drop 80).take 40).all (okB 189) = true := by decide +kernel
theorem ok_189_120 : (k_WFModel_next.drop 120).all (okB 189) = true := by decide +kernel
theorem ok_189 : (k_WFModel_next).all (okB 189) = true := all_dr 0 40 ok_189_0 (all_dr 40 40 ok_189_40 (all_dr 80 40 ok_189_80 (ok_189_120)))
