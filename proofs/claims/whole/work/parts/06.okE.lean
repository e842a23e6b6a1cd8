theorem ok_190 : (k_WFModel_byteAt).all (okB 190) = true := by decide +kernel
theorem ok_191 : (k_WFModel_isLetter).all (okB 191) = true := by decide +kernel
theorem ok_192 : (k_WFModel_isDigit).all (okB 192) = true := by decide +kernel
theorem ok_193_0 : ((k_WFModel_readBook.drop 0).take 40).all (okB 193) = true := by decide +kernel
theorem ok_193_40 : ((k_WFModel_readBook.drop 40).take 40).all (okB 193) = true := by decide +kernel
theorem ok_193_80 : (k_WFModel_readBook.drop 80).all (okB 193) = true := by decide +kernel
theorem ok_193 : (k_WFModel_readBook).all (okB 193) = true := all_dr 0 40 ok_193_0 (all_dr 40 40 ok_193_40 (ok_193_80))
theorem ok_194 : (k_WFModel_isWord).all (okB 194) = true := by decide +kernel
theorem ok_195 : (k_WFModel_wordOf).all (okB 195) = true := by decide +kernel
theorem ok_196 : (k_String_length).all (okB 196) = true := by decide +kernel
theorem ok_197 : (k_String_coder).all (okB 197) = true := by decide +kernel
theorem ok_198 : (k_String_charAt).all (okB 198) = true := by decide +kernel
theorem ok_199 : (k_String_isLatin1).all (okB 199) = true := by decide +kernel
theorem ok_200 : (k_StringLatin1_charAt).all (okB 200) = true := by decide +kernel
theorem ok_201 : (k_String_checkIndex).all (okB 201) = true := by decide +kernel
theorem ok_202 : (k_Preconditions_checkIndex).all (okB 202) = true := by decide +kernel
theorem ok_203 : (k_WFModel_stop).all (okB 203) = true := by decide +kernel
theorem ok_204 : (k_WFModel_isName).all (okB 204) = true := by decide +kernel
theorem ok_205 : (k_WFModel_thing).all (okB 205) = true := by decide +kernel
theorem ok_206 : (k_WFModel_Book_has).all (okB 206) = true := by decide +kernel
theorem ok_207 : (k_WFModel_readWorth).all (okB 207) = true := by decide +kernel
theorem ok_208 : (k_WFModel_begins).all (okB 208) = true := by decide +kernel
theorem ok_209_0 : ((k_WFModel_readFactor.drop 0).take 40).all (okB 209) = true := by decide +kernel
theorem ok_209_40 : ((k_WFModel_readFactor.drop 40).take 40).all (okB 209) = true := by decide +kernel
theorem ok_209_80 : (k_WFModel_readFactor.drop 80).all (okB 209) = true := by decide +kernel
theorem ok_209 : (k_WFModel_readFactor).all (okB 209) = true := all_dr 0 40 ok_209_0 (all_dr 40 40 ok_209_40 (ok_209_80))
theorem ok_210 : (k_WFModel_is).all (okB 210) = true := by decide +kernel
theorem ok_211 : (k_WFModel_opens).all (okB 211) = true := by decide +kernel
theorem ok_212 : (k_WFModel_Book_adds).all (okB 212) = true := by decide +kernel
theorem ok_213_0 : ((k_WFModel_isOver.drop 0).take 40).all (okB 213) = true := by decide +kernel
theorem ok_213_40 : ((k_WFModel_isOver.drop 40).take 40).all (okB 213) = true := by decide +kernel
theorem ok_213_80 : ((k_WFModel_isOver.drop 80).take 40).all (okB 213) = true := by decide +kernel
theorem ok_213_120 : (k_WFModel_isOver.drop 120).all (okB 213) = true := by decide +kernel
theorem ok_213 : (k_WFModel_isOver).all (okB 213) = true := all_dr 0 40 ok_213_0 (all_dr 40 40 ok_213_40 (all_dr 80 40 ok_213_80 (ok_213_120)))
theorem ok_214_0 : ((k_WFModel_lays.drop 0).take 40).all (okB 214) = true := by decide +kernel
theorem ok_214_40 : (k_WFModel_lays.drop 40).all (okB 214) = true := by decide +kernel
theorem ok_214 : (k_WFModel_lays).all (okB 214) = true := all_dr 0 40 ok_214_0 (ok_214_40)
theorem ok_215 : (k_WFModel_done).all (okB 215) = true := by decide +kernel
theorem ok_216 : (k_WFModel_fault).all (okB 216) = true := by decide +kernel
theorem ok_217 : (k_WFModel_where).all (okB 217) = true := by decide +kernel
theorem ok_218 : (k_WFModel_ground).all (okB 218) = true := by decide +kernel
theorem ok_219 : (k_WFModel_in).all (okB 219) = true := by decide +kernel
theorem ok_220 : (k_WFModel_cell).all (okB 220) = true := by decide +kernel
theorem ok_221 : (k_WFModel_isCell).all (okB 221) = true := by decide +kernel
theorem ok_222 : (k_WFModel_denied).all (okB 222) = true := by decide +kernel
theorem ok_223 : (k_WFModel_granted).all (okB 223) = true := by decide +kernel
theorem ok_224 : (k_WFModel_door).all (okB 224) = true := by decide +kernel
theorem ok_225 : (k_WFModel_isOwner).all (okB 225) = true := by decide +kernel
theorem ok_226 : (k_WFModel_keep).all (okB 226) = true := by decide +kernel
theorem ok_227 : (k_WFModel_had).all (okB 227) = true := by decide +kernel
theorem ok_228 : (k_WFModel_set).all (okB 228) = true := by decide +kernel
theorem ok_229 : (k_WFModel_value).all (okB 229) = true := by decide +kernel
theorem ok_230_0 : ((k_WFModel_valueOf.drop 0).take 40).all (okB 230) = true := by decide +kernel
theorem ok_230_40 : ((k_WFModel_valueOf.drop 40).take 40).all (okB 230) = true := by decide +kernel
theorem ok_230_80 : ((k_WFModel_valueOf.drop 80).take 40).all (okB 230) = true := by decide +kernel
theorem ok_230_120 : (k_WFModel_valueOf.drop 120).all (okB 230) = true := by decide +kernel
theorem ok_230 : (k_WFModel_valueOf).all (okB 230) = true := all_dr 0 40 ok_230_0 (all_dr 40 40 ok_230_40 (all_dr 80 40 ok_230_80 (ok_230_120)))
theorem ok_231 : (k_WFModel_far).all (okB 231) = true := by decide +kernel
theorem ok_232 : (k_WFModel_abs).all (okB 232) = true := by decide +kernel
theorem ok_233 : (k_WFModel_waters).all (okB 233) = true := by decide +kernel
theorem ok_234 : (k_WFModel_beside).all (okB 234) = true := by decide +kernel
theorem ok_235 : (k_WFModel_draw).all (okB 235) = true := by decide +kernel
theorem ok_236 : (k_WFModel_whose).all (okB 236) = true := by decide +kernel
theorem ok_237 : (k_WFModel_sum).all (okB 237) = true := by decide +kernel
theorem ok_238 : (k_WFModel_values).all (okB 238) = true := by decide +kernel
theorem ok_239 : (k_WFModel_sumOf).all (okB 239) = true := by decide +kernel
