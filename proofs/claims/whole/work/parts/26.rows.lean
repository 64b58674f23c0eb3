/-! ===== facts of the tables, as the program's own instructions need them ===== -/
theorem ltQ {a b : Nat} (h : Nat.ble (a + 1) b = true) : a < b := Nat.le_of_ble_eq_true h
theorem pf_nf {ci k1 : Nat} {b : Bool} (h : ffin ci k1 = false) : (!(ffin ci k1) || b) = true := by rw [h]; rfl
theorem pf_in {ci k1 : Nat} {y : MI} (h1 : mIni y = true) (h2 : mOwn y = ci) : (!(ffin ci k1) || (mIni y && mOwn y == ci)) = true := by subst h2; rw [h1]; simp
theorem ar_10_9 : ares 10 9 = some 1 := by decide +kernel
theorem ar_11_9 : ares 11 9 = some 0 := by decide +kernel
theorem ar_4_9 : ares 4 9 = some 4 := by decide +kernel
theorem ar_7_9 : ares 7 9 = some 2 := by decide +kernel
theorem ar_8_25 : ares 8 25 = some 3 := by decide +kernel
theorem ar_9_9 : ares 9 9 = some 2 := by decide +kernel
theorem c_0_3 : cres 0 3 = some (4, mX0_init) := by rfl
theorem c_0_31 : cres 0 31 = some (0, mX0_isAnsweredAhead) := by rfl
theorem c_1_102 : cres 1 102 = some (0, mX2_learnTold) := by rfl
theorem c_1_106 : cres 1 106 = some (0, mX10_areMost) := by rfl
theorem c_1_110 : cres 1 110 = some (0, mX1_sendAccepts) := by rfl
theorem c_1_121 : cres 1 121 = some (0, mX2_takeOn) := by rfl
theorem c_1_29 : cres 1 29 = some (0, mX2_nextBallot) := by rfl
theorem c_1_3 : cres 1 3 = some (4, mX0_init) := by rfl
theorem c_1_35 : cres 1 35 = some (0, mX2_startProposal) := by rfl
theorem c_1_47 : cres 1 47 = some (0, mX10_send) := by rfl
theorem c_1_62 : cres 1 62 = some (0, mX1_hearPrepare) := by rfl
theorem c_1_66 : cres 1 66 = some (0, mX1_hearPromised) := by rfl
theorem c_1_70 : cres 1 70 = some (0, mX1_hearAccept) := by rfl
theorem c_1_73 : cres 1 73 = some (0, mX1_hearAccepted) := by rfl
theorem c_10_21 : cres 10 21 = some (3, mX9_init) := by rfl
theorem c_10_3 : cres 10 3 = some (4, mX0_init) := by rfl
theorem c_10_39 : cres 10 39 = some (1, mJ6_bitCount_0f7a4) := by rfl
theorem c_10_45 : cres 10 45 = some (0, mX10_most) := by rfl
theorem c_10_49 : cres 10 49 = some (0, mX9_start) := by rfl
theorem c_10_53 : cres 10 53 = some (0, mX10_isCut) := by rfl
theorem c_11_1 : cres 11 1 = some (4, mX0_init) := by rfl
theorem c_11_109 : cres 11 109 = some (0, mX8_letPass) := by rfl
theorem c_11_112 : cres 11 112 = some (0, mX11_needMessage) := by rfl
theorem c_11_124 : cres 11 124 = some (0, mX10_isCut) := by rfl
theorem c_11_132 : cres 11 132 = some (0, mX10_takeOut) := by rfl
theorem c_11_141 : cres 11 141 = some (0, mX6_hear) := by rfl
theorem c_11_145 : cres 11 145 = some (0, mX1_hear) := by rfl
theorem c_11_146 : cres 11 146 = some (0, mX4_answerWrites) := by rfl
theorem c_11_156 : cres 11 156 = some (0, mX10_send) := by rfl
theorem c_11_160 : cres 11 160 = some (0, mX9_copyRest) := by rfl
theorem c_11_166 : cres 11 166 = some (0, mX8_hasPromised) := by rfl
theorem c_11_17 : cres 11 17 = some (2, mX10_init) := by rfl
theorem c_11_172 : cres 11 172 = some (0, mX6_letStand) := by rfl
theorem c_11_178 : cres 11 178 = some (0, mX6_letBeat) := by rfl
theorem c_11_187 : cres 11 187 = some (0, mX4_findWrite) := by rfl
theorem c_11_202 : cres 11 202 = some (0, mX7_isFull) := by rfl
theorem c_11_207 : cres 11 207 = some (0, mX4_isFull) := by rfl
theorem c_11_210 : cres 11 210 = some (0, mX4_addWrite) := by rfl
theorem c_11_213 : cres 11 213 = some (0, mX7_hasSerial) := by rfl
theorem c_11_218 : cres 11 218 = some (2, mX3_init) := by rfl
theorem c_11_221 : cres 11 221 = some (0, mX7_put) := by rfl
theorem c_11_225 : cres 11 225 = some (0, mX7_numberOf) := by rfl
theorem c_11_229 : cres 11 229 = some (0, mX8_holdsLease) := by rfl
theorem c_11_232 : cres 11 232 = some (0, mX8_agreedInItsTerm) := by rfl
theorem c_11_24 : cres 11 24 = some (2, mX6_init) := by rfl
theorem c_11_240 : cres 11 240 = some (0, mX7_valueUpTo) := by rfl
theorem c_11_244 : cres 11 244 = some (0, mX4_addRead) := by rfl
theorem c_11_247 : cres 11 247 = some (0, mX11_needChoice) := by rfl
theorem c_11_253 : cres 11 253 = some (0, mX1_letPropose) := by rfl
theorem c_11_272 : cres 11 272 = some (0, mX7_at) := by rfl
theorem c_11_314 : cres 11 314 = some (0, mX4_at) := by rfl
theorem c_11_328 : cres 11 328 = some (0, mX4_hasOneOrder) := by rfl
theorem c_11_33 : cres 11 33 = some (2, mX1_init) := by rfl
theorem c_11_331 : cres 11 331 = some (0, mX8_agreesWith) := by rfl
theorem c_11_335 : cres 11 335 = some (0, mX10_renew) := by rfl
theorem c_11_336 : cres 11 336 = some (0, mX6_renew) := by rfl
theorem c_11_338 : cres 11 338 = some (0, mX4_renew) := by rfl
theorem c_11_339 : cres 11 339 = some (0, mX8_renew) := by rfl
theorem c_11_350 : cres 11 350 = some (0, mX10_at) := by rfl
theorem c_11_40 : cres 11 40 = some (2, mX4_init) := by rfl
theorem c_11_45 : cres 11 45 = some (2, mX8_init) := by rfl
theorem c_11_48 : cres 11 48 = some (0, mX11_renew) := by rfl
theorem c_11_62 : cres 11 62 = some (0, mX11_needMachine) := by rfl
theorem c_11_66 : cres 11 66 = some (0, mX4_goOn) := by rfl
theorem c_11_73 : cres 11 73 = some (0, mX8_crash) := by rfl
theorem c_11_80 : cres 11 80 = some (0, mX8_rise) := by rfl
theorem c_11_86 : cres 11 86 = some (0, mX10_switchCut) := by rfl
theorem c_11_90 : cres 11 90 = some (1, mX11_needRange) := by rfl
theorem c_12_1 : cres 12 1 = some (4, mX0_init) := by rfl
theorem c_12_147 : cres 12 147 = some (0, mX12_begins) := by rfl
theorem c_12_154 : cres 12 154 = some (1, mX12_in) := by rfl
theorem c_12_173 : cres 12 173 = some (0, mX12_goes) := by rfl
theorem c_12_177 : cres 12 177 = some (0, mX12_isAgreedAt) := by rfl
theorem c_12_181 : cres 12 181 = some (0, mX12_isMachine) := by rfl
theorem c_12_184 : cres 12 184 = some (0, mX12_follows) := by rfl
theorem c_12_187 : cres 12 187 = some (0, mX12_ends) := by rfl
theorem c_12_195 : cres 12 195 = some (0, mX12_isMessage) := by rfl
theorem c_12_198 : cres 12 198 = some (0, mX12_leaves) := by rfl
theorem c_12_201 : cres 12 201 = some (0, mX12_asked) := by rfl
theorem c_12_204 : cres 12 204 = some (0, mX12_voted) := by rfl
theorem c_12_207 : cres 12 207 = some (0, mX12_appended) := by rfl
theorem c_12_211 : cres 12 211 = some (0, mX12_acknowledged) := by rfl
theorem c_12_214 : cres 12 214 = some (0, mX12_prepared) := by rfl
theorem c_12_217 : cres 12 217 = some (0, mX12_promised) := by rfl
theorem c_12_220 : cres 12 220 = some (0, mX12_accepted) := by rfl
theorem c_12_223 : cres 12 223 = some (0, mX12_counts) := by rfl
theorem c_12_226 : cres 12 226 = some (0, mX12_promises) := by rfl
theorem c_12_229 : cres 12 229 = some (0, mX12_sends) := by rfl
theorem c_12_233 : cres 12 233 = some (0, mX12_termAt) := by rfl
theorem c_12_237 : cres 12 237 = some (1, mX12_bits) := by rfl
theorem c_12_241 : cres 12 241 = some (0, mX12_most) := by rfl
theorem c_12_245 : cres 12 245 = some (0, mX12_acks) := by rfl
theorem c_12_249 : cres 12 249 = some (0, mX12_rankedSame) := by rfl
theorem c_12_252 : cres 12 252 = some (0, mX12_leases) := by rfl
theorem c_12_254 : cres 12 254 = some (0, mX12_actOf) := by rfl
theorem c_12_257 : cres 12 257 = some (0, mX12_acts) := by rfl
theorem c_12_260 : cres 12 260 = some (0, mX12_entryOf) := by rfl
theorem c_12_264 : cres 12 264 = some (0, mX12_holdsLease) := by rfl
theorem c_12_267 : cres 12 267 = some (0, mX12_valueOf) := by rfl
theorem c_12_271 : cres 12 271 = some (0, mX12_mayCome) := by rfl
theorem c_12_275 : cres 12 275 = some (0, mX12_areAlike) := by rfl
theorem c_13_101 : cres 13 101 = some (1, mL_toggle) := by rfl
theorem c_13_103 : cres 13 103 = some (0, mX12_toggle) := by rfl
theorem c_13_104 : cres 13 104 = some (1, mL_cut) := by rfl
theorem c_13_107 : cres 13 107 = some (0, mX12_cut) := by rfl
theorem c_13_108 : cres 13 108 = some (1, mL_rate) := by rfl
theorem c_13_111 : cres 13 111 = some (0, mX12_rate) := by rfl
theorem c_13_112 : cres 13 112 = some (1, mL_spans) := by rfl
theorem c_13_115 : cres 13 115 = some (0, mX12_spans) := by rfl
theorem c_13_116 : cres 13 116 = some (1, mL_pass) := by rfl
theorem c_13_119 : cres 13 119 = some (0, mX12_pass) := by rfl
theorem c_13_120 : cres 13 120 = some (1, mL_deliver) := by rfl
theorem c_13_122 : cres 13 122 = some (0, mX12_deliver) := by rfl
theorem c_13_123 : cres 13 123 = some (1, mL_lose) := by rfl
theorem c_13_125 : cres 13 125 = some (0, mX12_lose) := by rfl
theorem c_13_126 : cres 13 126 = some (1, mL_twice) := by rfl
theorem c_13_128 : cres 13 128 = some (0, mX12_twice) := by rfl
theorem c_13_129 : cres 13 129 = some (1, mL_stand) := by rfl
theorem c_13_131 : cres 13 131 = some (0, mX12_stand) := by rfl
theorem c_13_132 : cres 13 132 = some (1, mL_beat) := by rfl
theorem c_13_134 : cres 13 134 = some (0, mX12_beat) := by rfl
theorem c_13_135 : cres 13 135 = some (1, mL_request) := by rfl
theorem c_13_138 : cres 13 138 = some (0, mX12_request) := by rfl
theorem c_13_139 : cres 13 139 = some (1, mL_read) := by rfl
theorem c_13_141 : cres 13 141 = some (0, mX12_read) := by rfl
theorem c_13_142 : cres 13 142 = some (1, mL_propose) := by rfl
theorem c_13_145 : cres 13 145 = some (0, mX12_propose) := by rfl
theorem c_13_146 : cres 13 146 = some (0, mX11_steps) := by rfl
theorem c_13_149 : cres 13 149 = some (0, mX12_steps) := by rfl
theorem c_13_15 : cres 13 15 = some (0, mX11_toggle) := by rfl
theorem c_13_150 : cres 13 150 = some (0, mX11_messages) := by rfl
theorem c_13_153 : cres 13 153 = some (0, mX12_messages) := by rfl
theorem c_13_154 : cres 13 154 = some (1, mL_message) := by rfl
theorem c_13_156 : cres 13 156 = some (0, mX12_message) := by rfl
theorem c_13_157 : cres 13 157 = some (1, mL_of) := by rfl
theorem c_13_159 : cres 13 159 = some (0, mX12_of) := by rfl
theorem c_13_160 : cres 13 160 = some (1, mL_entry) := by rfl
theorem c_13_162 : cres 13 162 = some (0, mX12_entry) := by rfl
theorem c_13_163 : cres 13 163 = some (1, mL_clock) := by rfl
theorem c_13_165 : cres 13 165 = some (0, mX12_clock) := by rfl
theorem c_13_166 : cres 13 166 = some (1, mL_lease) := by rfl
theorem c_13_168 : cres 13 168 = some (0, mX12_lease) := by rfl
theorem c_13_169 : cres 13 169 = some (0, mX11_leases) := by rfl
theorem c_13_172 : cres 13 172 = some (0, mX12_leases_) := by rfl
theorem c_13_173 : cres 13 173 = some (1, mL_decision) := by rfl
theorem c_13_175 : cres 13 175 = some (0, mX12_decision) := by rfl
theorem c_13_176 : cres 13 176 = some (0, mX11_acts) := by rfl
theorem c_13_179 : cres 13 179 = some (0, mX12_acts_) := by rfl
theorem c_13_180 : cres 13 180 = some (1, mL_act) := by rfl
theorem c_13_182 : cres 13 182 = some (0, mX12_act) := by rfl
theorem c_13_183 : cres 13 183 = some (0, mX11_isInOrder) := by rfl
theorem c_13_187 : cres 13 187 = some (0, mX12_isInOrder) := by rfl
theorem c_13_188 : cres 13 188 = some (0, mX11_isAgreed) := by rfl
theorem c_13_191 : cres 13 191 = some (0, mX12_isAgreed) := by rfl
theorem c_13_21 : cres 13 21 = some (0, mX11_cut) := by rfl
theorem c_13_25 : cres 13 25 = some (0, mX11_rate) := by rfl
theorem c_13_29 : cres 13 29 = some (0, mX11_spans) := by rfl
theorem c_13_33 : cres 13 33 = some (0, mX11_pass) := by rfl
theorem c_13_37 : cres 13 37 = some (0, mX11_deliver) := by rfl
theorem c_13_42 : cres 13 42 = some (0, mX11_lose) := by rfl
theorem c_13_45 : cres 13 45 = some (0, mX11_twice) := by rfl
theorem c_13_48 : cres 13 48 = some (0, mX11_stand) := by rfl
theorem c_13_51 : cres 13 51 = some (0, mX11_beat) := by rfl
theorem c_13_54 : cres 13 54 = some (0, mX11_request) := by rfl
theorem c_13_58 : cres 13 58 = some (0, mX11_read) := by rfl
theorem c_13_61 : cres 13 61 = some (0, mX11_propose) := by rfl
theorem c_13_65 : cres 13 65 = some (0, mX11_message) := by rfl
theorem c_13_69 : cres 13 69 = some (0, mX11_of) := by rfl
theorem c_13_7 : cres 13 7 = some (0, mX11_begin) := by rfl
theorem c_13_72 : cres 13 72 = some (0, mX11_entry) := by rfl
theorem c_13_75 : cres 13 75 = some (0, mX11_clock) := by rfl
theorem c_13_78 : cres 13 78 = some (0, mX11_lease) := by rfl
theorem c_13_81 : cres 13 81 = some (0, mX11_decision) := by rfl
theorem c_13_84 : cres 13 84 = some (0, mX11_act) := by rfl
theorem c_13_87 : cres 13 87 = some (2, mX11_init) := by rfl
theorem c_13_90 : cres 13 90 = some (2, mX12_init) := by rfl
theorem c_13_91 : cres 13 91 = some (1, mL_begin) := by rfl
theorem c_13_96 : cres 13 96 = some (0, mX12_begin) := by rfl
theorem c_13_97 : cres 13 97 = some (0, mX12_thrown) := by rfl
theorem c_2_24 : cres 2 24 = some (0, mX2_dropProposal) := by rfl
theorem c_2_3 : cres 2 3 = some (4, mX0_init) := by rfl
theorem c_3_1 : cres 3 1 = some (4, mX0_init) := by rfl
theorem c_4_20 : cres 4 20 = some (3, mX0_init) := by rfl
theorem c_4_3 : cres 4 3 = some (4, mX0_init) := by rfl
theorem c_4_41 : cres 4 41 = some (0, mX0_start) := by rfl
theorem c_4_57 : cres 4 57 = some (0, mX7_numberOf) := by rfl
theorem c_4_66 : cres 4 66 = some (1, mX4_canFeed) := by rfl
theorem c_4_73 : cres 4 73 = some (0, mX4_writesDueAhead) := by rfl
theorem c_4_80 : cres 4 80 = some (0, mX0_fitsBetween) := by rfl
theorem c_4_84 : cres 4 84 = some (0, mX4_writesAheadOf) := by rfl
theorem c_4_88 : cres 4 88 = some (0, mX0_isAnsweredAhead) := by rfl
theorem c_5_3 : cres 5 3 = some (4, mX0_init) := by rfl
theorem c_5_30 : cres 5 30 = some (0, mX5_hasAnswered) := by rfl
theorem c_5_34 : cres 5 34 = some (0, mX5_answeredSince) := by rfl
theorem c_6_102 : cres 6 102 = some (0, mX8_learnTerm) := by rfl
theorem c_6_109 : cres 6 109 = some (0, mX6_hearAsk) := by rfl
theorem c_6_113 : cres 6 113 = some (0, mX6_hearVote) := by rfl
theorem c_6_116 : cres 6 116 = some (0, mX6_hearAppend) := by rfl
theorem c_6_119 : cres 6 119 = some (0, mX6_hearAck) := by rfl
theorem c_6_122 : cres 6 122 = some (0, mX8_canVoteFor) := by rfl
theorem c_6_133 : cres 6 133 = some (0, mX10_areMost) := by rfl
theorem c_6_137 : cres 6 137 = some (0, mX5_start) := by rfl
theorem c_6_140 : cres 6 140 = some (0, mX6_sendAck) := by rfl
theorem c_6_144 : cres 6 144 = some (0, mX8_follow) := by rfl
theorem c_6_147 : cres 6 147 = some (6, mX0_init) := by rfl
theorem c_6_153 : cres 6 153 = some (0, mX6_putEntries) := by rfl
theorem c_6_157 : cres 6 157 = some (5, mX0_init) := by rfl
theorem c_6_160 : cres 6 160 = some (0, mX8_promise) := by rfl
theorem c_6_171 : cres 6 171 = some (0, mX7_cutBehind) := by rfl
theorem c_6_174 : cres 6 174 = some (0, mX7_put) := by rfl
theorem c_6_178 : cres 6 178 = some (0, mX5_learnSame) := by rfl
theorem c_6_182 : cres 6 182 = some (0, mX6_commitWhatMostKnow) := by rfl
theorem c_6_186 : cres 6 186 = some (0, mX5_learnClock) := by rfl
theorem c_6_189 : cres 6 189 = some (0, mX6_renewLease) := by rfl
theorem c_6_192 : cres 6 192 = some (0, mX5_knowing) := by rfl
theorem c_6_195 : cres 6 195 = some (0, mX10_most) := by rfl
theorem c_6_205 : cres 6 205 = some (0, mX5_clockOf) := by rfl
theorem c_6_3 : cres 6 3 = some (4, mX0_init) := by rfl
theorem c_6_50 : cres 6 50 = some (0, mX10_send) := by rfl
theorem c_6_66 : cres 6 66 = some (0, mX7_termAt) := by rfl
theorem c_6_83 : cres 6 83 = some (0, mX9_addEntriesBehind) := by rfl
theorem c_7_21 : cres 7 21 = some (0, mX7_at) := by rfl
theorem c_7_3 : cres 7 3 = some (4, mX0_init) := by rfl
theorem c_7_34 : cres 7 34 = some (0, mX7_isOutdone) := by rfl
theorem c_7_38 : cres 7 38 = some (6, mX0_init) := by rfl
theorem c_7_47 : cres 7 47 = some (0, mX3_isLike) := by rfl
theorem c_7_51 : cres 7 51 = some (0, mX3_outdoes) := by rfl
theorem c_8_100 : cres 8 100 = some (0, mX8_hasPromised) := by rfl
theorem c_8_11 : cres 8 11 = some (3, mX7_init) := by rfl
theorem c_8_114 : cres 8 114 = some (6, mX0_init) := by rfl
theorem c_8_120 : cres 8 120 = some (0, mX7_isLikeUpTo) := by rfl
theorem c_8_20 : cres 8 20 = some (3, mX5_init) := by rfl
theorem c_8_3 : cres 8 3 = some (4, mX0_init) := by rfl
theorem c_8_35 : cres 8 35 = some (3, mX2_init) := by rfl
theorem c_8_65 : cres 8 65 = some (0, mX7_cutBehind) := by rfl
theorem c_8_69 : cres 8 69 = some (0, mX8_follow) := by rfl
theorem c_8_72 : cres 8 72 = some (0, mX2_renew) := by rfl
theorem c_8_75 : cres 8 75 = some (0, mX2_dropProposal) := by rfl
theorem c_8_78 : cres 8 78 = some (0, mX8_promise) := by rfl
theorem c_8_91 : cres 8 91 = some (0, mX7_termAt) := by rfl
theorem c_9_3 : cres 9 3 = some (4, mX0_init) := by rfl
theorem c_9_59 : cres 9 59 = some (0, mX7_at) := by rfl
theorem f_0_15 : fres 0 15 = some (0, 3) := by decide +kernel
theorem f_0_19 : fres 0 19 = some (0, 4) := by decide +kernel
theorem f_0_22 : fres 0 22 = some (0, 5) := by decide +kernel
theorem f_0_25 : fres 0 25 = some (0, 1) := by decide +kernel
theorem f_0_28 : fres 0 28 = some (0, 2) := by decide +kernel
theorem f_0_9 : fres 0 9 = some (0, 0) := by decide +kernel
theorem f_1_114 : fres 1 114 = some (2, 8) := by decide +kernel
theorem f_1_117 : fres 1 117 = some (2, 9) := by decide +kernel
theorem f_1_120 : fres 1 120 = some (2, 5) := by decide +kernel
theorem f_1_124 : fres 1 124 = some (2, 3) := by decide +kernel
theorem f_1_15 : fres 1 15 = some (1, 1) := by decide +kernel
theorem f_1_19 : fres 1 19 = some (8, 3) := by decide +kernel
theorem f_1_25 : fres 1 25 = some (8, 0) := by decide +kernel
theorem f_1_39 : fres 1 39 = some (10, 0) := by decide +kernel
theorem f_1_44 : fres 1 44 = some (2, 4) := by decide +kernel
theorem f_1_51 : fres 1 51 = some (9, 11) := by decide +kernel
theorem f_1_56 : fres 1 56 = some (9, 2) := by decide +kernel
theorem f_1_59 : fres 1 59 = some (9, 0) := by decide +kernel
theorem f_1_76 : fres 1 76 = some (9, 3) := by decide +kernel
theorem f_1_79 : fres 1 79 = some (2, 0) := by decide +kernel
theorem f_1_82 : fres 1 82 = some (9, 1) := by decide +kernel
theorem f_1_85 : fres 1 85 = some (2, 1) := by decide +kernel
theorem f_1_88 : fres 1 88 = some (9, 12) := by decide +kernel
theorem f_1_89 : fres 1 89 = some (2, 2) := by decide +kernel
theorem f_1_9 : fres 1 9 = some (1, 0) := by decide +kernel
theorem f_1_92 : fres 1 92 = some (9, 13) := by decide +kernel
theorem f_1_95 : fres 1 95 = some (2, 6) := by decide +kernel
theorem f_1_99 : fres 1 99 = some (2, 7) := by decide +kernel
theorem f_10_11 : fres 10 11 = some (10, 3) := by decide +kernel
theorem f_10_17 : fres 10 17 = some (10, 4) := by decide +kernel
theorem f_10_22 : fres 10 22 = some (10, 5) := by decide +kernel
theorem f_10_26 : fres 10 26 = some (10, 6) := by decide +kernel
theorem f_10_29 : fres 10 29 = some (10, 0) := by decide +kernel
theorem f_10_33 : fres 10 33 = some (10, 1) := by decide +kernel
theorem f_10_36 : fres 10 36 = some (10, 2) := by decide +kernel
theorem f_11_103 : fres 11 103 = some (6, 3) := by decide +kernel
theorem f_11_106 : fres 11 106 = some (11, 5) := by decide +kernel
theorem f_11_11 : fres 11 11 = some (11, 0) := by decide +kernel
theorem f_11_116 : fres 11 116 = some (9, 2) := by decide +kernel
theorem f_11_121 : fres 11 121 = some (9, 1) := by decide +kernel
theorem f_11_135 : fres 11 135 = some (10, 2) := by decide +kernel
theorem f_11_138 : fres 11 138 = some (9, 0) := by decide +kernel
theorem f_11_150 : fres 11 150 = some (10, 1) := by decide +kernel
theorem f_11_153 : fres 11 153 = some (9, 3) := by decide +kernel
theorem f_11_163 : fres 11 163 = some (8, 7) := by decide +kernel
theorem f_11_175 : fres 11 175 = some (8, 8) := by decide +kernel
theorem f_11_18 : fres 11 18 = some (11, 1) := by decide +kernel
theorem f_11_191 : fres 11 191 = some (0, 3) := by decide +kernel
theorem f_11_198 : fres 11 198 = some (8, 1) := by decide +kernel
theorem f_11_237 : fres 11 237 = some (8, 10) := by decide +kernel
theorem f_11_257 : fres 11 257 = some (4, 3) := by decide +kernel
theorem f_11_260 : fres 11 260 = some (9, 10) := by decide +kernel
theorem f_11_265 : fres 11 265 = some (8, 9) := by decide +kernel
theorem f_11_268 : fres 11 268 = some (7, 1) := by decide +kernel
theorem f_11_269 : fres 11 269 = some (8, 12) := by decide +kernel
theorem f_11_27 : fres 11 27 = some (11, 2) := by decide +kernel
theorem f_11_278 : fres 11 278 = some (3, 0) := by decide +kernel
theorem f_11_279 : fres 11 279 = some (3, 1) := by decide +kernel
theorem f_11_282 : fres 11 282 = some (3, 2) := by decide +kernel
theorem f_11_285 : fres 11 285 = some (3, 3) := by decide +kernel
theorem f_11_286 : fres 11 286 = some (8, 2) := by decide +kernel
theorem f_11_290 : fres 11 290 = some (5, 4) := by decide +kernel
theorem f_11_295 : fres 11 295 = some (5, 5) := by decide +kernel
theorem f_11_299 : fres 11 299 = some (2, 0) := by decide +kernel
theorem f_11_304 : fres 11 304 = some (2, 1) := by decide +kernel
theorem f_11_307 : fres 11 307 = some (2, 2) := by decide +kernel
theorem f_11_310 : fres 11 310 = some (2, 3) := by decide +kernel
theorem f_11_313 : fres 11 313 = some (4, 2) := by decide +kernel
theorem f_11_319 : fres 11 319 = some (0, 0) := by decide +kernel
theorem f_11_322 : fres 11 322 = some (0, 4) := by decide +kernel
theorem f_11_325 : fres 11 325 = some (0, 5) := by decide +kernel
theorem f_11_34 : fres 11 34 = some (11, 3) := by decide +kernel
theorem f_11_344 : fres 11 344 = some (8, 3) := by decide +kernel
theorem f_11_41 : fres 11 41 = some (11, 4) := by decide +kernel
theorem f_11_58 : fres 11 58 = some (10, 0) := by decide +kernel
theorem f_11_69 : fres 11 69 = some (8, 4) := by decide +kernel
theorem f_11_76 : fres 11 76 = some (6, 2) := by decide +kernel
theorem f_11_95 : fres 11 95 = some (8, 6) := by decide +kernel
theorem f_11_98 : fres 11 98 = some (8, 5) := by decide +kernel
theorem f_12_102 : fres 12 102 = some (12, 32) := by decide +kernel
theorem f_12_105 : fres 12 105 = some (12, 33) := by decide +kernel
theorem f_12_108 : fres 12 108 = some (12, 34) := by decide +kernel
theorem f_12_111 : fres 12 111 = some (12, 35) := by decide +kernel
theorem f_12_114 : fres 12 114 = some (12, 36) := by decide +kernel
theorem f_12_117 : fres 12 117 = some (12, 37) := by decide +kernel
theorem f_12_120 : fres 12 120 = some (12, 38) := by decide +kernel
theorem f_12_123 : fres 12 123 = some (12, 41) := by decide +kernel
theorem f_12_126 : fres 12 126 = some (12, 42) := by decide +kernel
theorem f_12_129 : fres 12 129 = some (12, 43) := by decide +kernel
theorem f_12_132 : fres 12 132 = some (12, 44) := by decide +kernel
theorem f_12_135 : fres 12 135 = some (12, 45) := by decide +kernel
theorem f_12_138 : fres 12 138 = some (12, 46) := by decide +kernel
theorem f_12_14 : fres 12 14 = some (12, 2) := by decide +kernel
theorem f_12_141 : fres 12 141 = some (12, 48) := by decide +kernel
theorem f_12_144 : fres 12 144 = some (12, 49) := by decide +kernel
theorem f_12_151 : fres 12 151 = some (12, 50) := by decide +kernel
theorem f_12_158 : fres 12 158 = some (12, 1) := by decide +kernel
theorem f_12_161 : fres 12 161 = some (12, 3) := by decide +kernel
theorem f_12_164 : fres 12 164 = some (12, 4) := by decide +kernel
theorem f_12_167 : fres 12 167 = some (12, 39) := by decide +kernel
theorem f_12_170 : fres 12 170 = some (12, 47) := by decide +kernel
theorem f_12_18 : fres 12 18 = some (12, 5) := by decide +kernel
theorem f_12_192 : fres 12 192 = some (12, 40) := by decide +kernel
theorem f_12_22 : fres 12 22 = some (12, 6) := by decide +kernel
theorem f_12_25 : fres 12 25 = some (12, 7) := by decide +kernel
theorem f_12_29 : fres 12 29 = some (12, 8) := by decide +kernel
theorem f_12_32 : fres 12 32 = some (12, 9) := by decide +kernel
theorem f_12_36 : fres 12 36 = some (12, 10) := by decide +kernel
theorem f_12_39 : fres 12 39 = some (12, 11) := by decide +kernel
theorem f_12_42 : fres 12 42 = some (12, 12) := by decide +kernel
theorem f_12_45 : fres 12 45 = some (12, 13) := by decide +kernel
theorem f_12_48 : fres 12 48 = some (12, 14) := by decide +kernel
theorem f_12_51 : fres 12 51 = some (12, 15) := by decide +kernel
theorem f_12_54 : fres 12 54 = some (12, 16) := by decide +kernel
theorem f_12_57 : fres 12 57 = some (12, 17) := by decide +kernel
theorem f_12_60 : fres 12 60 = some (12, 18) := by decide +kernel
theorem f_12_63 : fres 12 63 = some (12, 19) := by decide +kernel
theorem f_12_66 : fres 12 66 = some (12, 20) := by decide +kernel
theorem f_12_69 : fres 12 69 = some (12, 21) := by decide +kernel
theorem f_12_7 : fres 12 7 = some (12, 0) := by decide +kernel
theorem f_12_72 : fres 12 72 = some (12, 22) := by decide +kernel
theorem f_12_75 : fres 12 75 = some (12, 23) := by decide +kernel
theorem f_12_78 : fres 12 78 = some (12, 24) := by decide +kernel
theorem f_12_81 : fres 12 81 = some (12, 25) := by decide +kernel
theorem f_12_84 : fres 12 84 = some (12, 26) := by decide +kernel
theorem f_12_87 : fres 12 87 = some (12, 27) := by decide +kernel
theorem f_12_90 : fres 12 90 = some (12, 28) := by decide +kernel
theorem f_12_93 : fres 12 93 = some (12, 29) := by decide +kernel
theorem f_12_96 : fres 12 96 = some (12, 30) := by decide +kernel
theorem f_12_99 : fres 12 99 = some (12, 31) := by decide +kernel
theorem f_2_15 : fres 2 15 = some (2, 1) := by decide +kernel
theorem f_2_18 : fres 2 18 = some (2, 2) := by decide +kernel
theorem f_2_21 : fres 2 21 = some (2, 3) := by decide +kernel
theorem f_2_27 : fres 2 27 = some (2, 4) := by decide +kernel
theorem f_2_30 : fres 2 30 = some (2, 5) := by decide +kernel
theorem f_2_33 : fres 2 33 = some (2, 6) := by decide +kernel
theorem f_2_37 : fres 2 37 = some (2, 7) := by decide +kernel
theorem f_2_40 : fres 2 40 = some (2, 8) := by decide +kernel
theorem f_2_43 : fres 2 43 = some (2, 9) := by decide +kernel
theorem f_2_9 : fres 2 9 = some (2, 0) := by decide +kernel
theorem f_3_13 : fres 3 13 = some (3, 1) := by decide +kernel
theorem f_3_16 : fres 3 16 = some (3, 2) := by decide +kernel
theorem f_3_19 : fres 3 19 = some (3, 3) := by decide +kernel
theorem f_3_7 : fres 3 7 = some (3, 0) := by decide +kernel
theorem f_4_11 : fres 4 11 = some (4, 0) := by decide +kernel
theorem f_4_17 : fres 4 17 = some (4, 1) := by decide +kernel
theorem f_4_21 : fres 4 21 = some (4, 2) := by decide +kernel
theorem f_4_25 : fres 4 25 = some (4, 4) := by decide +kernel
theorem f_4_28 : fres 4 28 = some (4, 3) := by decide +kernel
theorem f_4_31 : fres 4 31 = some (0, 0) := by decide +kernel
theorem f_4_35 : fres 4 35 = some (0, 1) := by decide +kernel
theorem f_4_38 : fres 4 38 = some (0, 2) := by decide +kernel
theorem f_4_45 : fres 4 45 = some (0, 5) := by decide +kernel
theorem f_4_48 : fres 4 48 = some (8, 7) := by decide +kernel
theorem f_4_53 : fres 4 53 = some (8, 1) := by decide +kernel
theorem f_4_63 : fres 4 63 = some (8, 10) := by decide +kernel
theorem f_4_70 : fres 4 70 = some (0, 4) := by decide +kernel
theorem f_4_77 : fres 4 77 = some (0, 3) := by decide +kernel
theorem f_5_15 : fres 5 15 = some (5, 1) := by decide +kernel
theorem f_5_18 : fres 5 18 = some (5, 3) := by decide +kernel
theorem f_5_22 : fres 5 22 = some (5, 2) := by decide +kernel
theorem f_5_26 : fres 5 26 = some (5, 4) := by decide +kernel
theorem f_5_9 : fres 5 9 = some (5, 0) := by decide +kernel
theorem f_6_101 : fres 6 101 = some (9, 3) := by decide +kernel
theorem f_6_106 : fres 6 106 = some (9, 0) := by decide +kernel
theorem f_6_126 : fres 6 126 = some (9, 1) := by decide +kernel
theorem f_6_129 : fres 6 129 = some (9, 8) := by decide +kernel
theorem f_6_15 : fres 6 15 = some (6, 1) := by decide +kernel
theorem f_6_164 : fres 6 164 = some (9, 9) := by decide +kernel
theorem f_6_168 : fres 6 168 = some (3, 0) := by decide +kernel
theorem f_6_199 : fres 6 199 = some (5, 2) := by decide +kernel
theorem f_6_20 : fres 6 20 = some (6, 2) := by decide +kernel
theorem f_6_202 : fres 6 202 = some (5, 4) := by decide +kernel
theorem f_6_209 : fres 6 209 = some (5, 5) := by decide +kernel
theorem f_6_24 : fres 6 24 = some (6, 3) := by decide +kernel
theorem f_6_27 : fres 6 27 = some (8, 8) := by decide +kernel
theorem f_6_33 : fres 6 33 = some (8, 0) := by decide +kernel
theorem f_6_36 : fres 6 36 = some (8, 9) := by decide +kernel
theorem f_6_39 : fres 6 39 = some (8, 7) := by decide +kernel
theorem f_6_42 : fres 6 42 = some (8, 11) := by decide +kernel
theorem f_6_45 : fres 6 45 = some (10, 0) := by decide +kernel
theorem f_6_54 : fres 6 54 = some (8, 1) := by decide +kernel
theorem f_6_58 : fres 6 58 = some (7, 1) := by decide +kernel
theorem f_6_63 : fres 6 63 = some (9, 4) := by decide +kernel
theorem f_6_70 : fres 6 70 = some (9, 5) := by decide +kernel
theorem f_6_73 : fres 6 73 = some (8, 2) := by decide +kernel
theorem f_6_77 : fres 6 77 = some (5, 0) := by decide +kernel
theorem f_6_87 : fres 6 87 = some (8, 10) := by decide +kernel
theorem f_6_9 : fres 6 9 = some (6, 0) := by decide +kernel
theorem f_6_90 : fres 6 90 = some (9, 6) := by decide +kernel
theorem f_6_91 : fres 6 91 = some (8, 5) := by decide +kernel
theorem f_6_94 : fres 6 94 = some (9, 7) := by decide +kernel
theorem f_6_95 : fres 6 95 = some (9, 10) := by decide +kernel
theorem f_6_98 : fres 6 98 = some (9, 2) := by decide +kernel
theorem f_7_11 : fres 7 11 = some (7, 0) := by decide +kernel
theorem f_7_17 : fres 7 17 = some (7, 1) := by decide +kernel
theorem f_7_25 : fres 7 25 = some (3, 0) := by decide +kernel
theorem f_7_28 : fres 7 28 = some (3, 1) := by decide +kernel
theorem f_7_31 : fres 7 31 = some (3, 2) := by decide +kernel
theorem f_7_44 : fres 7 44 = some (3, 3) := by decide +kernel
theorem f_8_104 : fres 8 104 = some (7, 1) := by decide +kernel
theorem f_8_107 : fres 8 107 = some (9, 5) := by decide +kernel
theorem f_8_110 : fres 8 110 = some (9, 4) := by decide +kernel
theorem f_8_111 : fres 8 111 = some (2, 3) := by decide +kernel
theorem f_8_12 : fres 8 12 = some (8, 1) := by decide +kernel
theorem f_8_21 : fres 8 21 = some (8, 2) := by decide +kernel
theorem f_8_27 : fres 8 27 = some (8, 3) := by decide +kernel
theorem f_8_31 : fres 8 31 = some (8, 0) := by decide +kernel
theorem f_8_36 : fres 8 36 = some (8, 4) := by decide +kernel
theorem f_8_40 : fres 8 40 = some (8, 5) := by decide +kernel
theorem f_8_44 : fres 8 44 = some (8, 6) := by decide +kernel
theorem f_8_47 : fres 8 47 = some (8, 8) := by decide +kernel
theorem f_8_50 : fres 8 50 = some (8, 9) := by decide +kernel
theorem f_8_53 : fres 8 53 = some (8, 10) := by decide +kernel
theorem f_8_56 : fres 8 56 = some (8, 11) := by decide +kernel
theorem f_8_59 : fres 8 59 = some (8, 12) := by decide +kernel
theorem f_8_62 : fres 8 62 = some (8, 13) := by decide +kernel
theorem f_8_82 : fres 8 82 = some (8, 7) := by decide +kernel
theorem f_8_85 : fres 8 85 = some (5, 4) := by decide +kernel
theorem f_8_88 : fres 8 88 = some (5, 5) := by decide +kernel
theorem f_8_95 : fres 8 95 = some (9, 1) := by decide +kernel
theorem f_9_11 : fres 9 11 = some (9, 9) := by decide +kernel
theorem f_9_17 : fres 9 17 = some (9, 0) := by decide +kernel
theorem f_9_21 : fres 9 21 = some (9, 1) := by decide +kernel
theorem f_9_24 : fres 9 24 = some (9, 2) := by decide +kernel
theorem f_9_27 : fres 9 27 = some (9, 3) := by decide +kernel
theorem f_9_30 : fres 9 30 = some (9, 4) := by decide +kernel
theorem f_9_33 : fres 9 33 = some (9, 5) := by decide +kernel
theorem f_9_36 : fres 9 36 = some (9, 6) := by decide +kernel
theorem f_9_39 : fres 9 39 = some (9, 7) := by decide +kernel
theorem f_9_43 : fres 9 43 = some (9, 8) := by decide +kernel
theorem f_9_47 : fres 9 47 = some (9, 10) := by decide +kernel
theorem f_9_50 : fres 9 50 = some (9, 11) := by decide +kernel
theorem f_9_53 : fres 9 53 = some (9, 12) := by decide +kernel
theorem f_9_56 : fres 9 56 = some (9, 13) := by decide +kernel
theorem i1_m1 : Int32.ofInt (-1) = (-1 : Int32) := by decide
theorem i1_0 : Int32.ofInt (0) = (0 : Int32) := by decide
theorem i1_1 : Int32.ofInt (1) = (1 : Int32) := by decide
theorem i1_2 : Int32.ofInt (2) = (2 : Int32) := by decide
theorem i1_3 : Int32.ofInt (3) = (3 : Int32) := by decide
theorem i1_4 : Int32.ofInt (4) = (4 : Int32) := by decide
theorem i1_5 : Int32.ofInt (5) = (5 : Int32) := by decide
theorem i1_8 : Int32.ofInt (8) = (8 : Int32) := by decide
theorem i2_10 : (Int8.ofInt (10)).toInt32 = (10 : Int32) := by decide
theorem i2_11 : (Int8.ofInt (11)).toInt32 = (11 : Int32) := by decide
theorem i2_12 : (Int8.ofInt (12)).toInt32 = (12 : Int32) := by decide
theorem i2_13 : (Int8.ofInt (13)).toInt32 = (13 : Int32) := by decide
theorem i2_14 : (Int8.ofInt (14)).toInt32 = (14 : Int32) := by decide
theorem i2_15 : (Int8.ofInt (15)).toInt32 = (15 : Int32) := by decide
theorem i2_16 : (Int8.ofInt (16)).toInt32 = (16 : Int32) := by decide
theorem i2_20 : (Int8.ofInt (20)).toInt32 = (20 : Int32) := by decide
theorem i2_24 : (Int8.ofInt (24)).toInt32 = (24 : Int32) := by decide
theorem i2_25 : (Int8.ofInt (25)).toInt32 = (25 : Int32) := by decide
theorem i2_30 : (Int8.ofInt (30)).toInt32 = (30 : Int32) := by decide
theorem i2_31 : (Int8.ofInt (31)).toInt32 = (31 : Int32) := by decide
theorem i2_6 : (Int8.ofInt (6)).toInt32 = (6 : Int32) := by decide
theorem i2_60 : (Int8.ofInt (60)).toInt32 = (60 : Int32) := by decide
theorem i2_63 : (Int8.ofInt (63)).toInt32 = (63 : Int32) := by decide
theorem i2_7 : (Int8.ofInt (7)).toInt32 = (7 : Int32) := by decide
theorem i2_8 : (Int8.ofInt (8)).toInt32 = (8 : Int32) := by decide
theorem i2_9 : (Int8.ofInt (9)).toInt32 = (9 : Int32) := by decide
theorem i2_90 : (Int8.ofInt (90)).toInt32 = (90 : Int32) := by decide
theorem i2_99 : (Int8.ofInt (99)).toInt32 = (99 : Int32) := by decide
theorem i3_1000 : (Int16.ofInt (1000)).toInt32 = (1000 : Int32) := by decide
theorem i3_1440 : (Int16.ofInt (1440)).toInt32 = (1440 : Int32) := by decide
theorem i3_150 : (Int16.ofInt (150)).toInt32 = (150 : Int32) := by decide
theorem i3_1500 : (Int16.ofInt (1500)).toInt32 = (1500 : Int32) := by decide
theorem i3_16384 : (Int16.ofInt (16384)).toInt32 = (16384 : Int32) := by decide
theorem i3_500 : (Int16.ofInt (500)).toInt32 = (500 : Int32) := by decide
theorem i3_999 : (Int16.ofInt (999)).toInt32 = (999 : Int32) := by decide
theorem l_11_101 : lres 11 101 = some (.float 1092616192) := by rfl
theorem l_11_102 : lres 11 102 = some (.float 1120403456) := by rfl
theorem l_11_298 : lres 11 298 = some (.float 3212836864) := by rfl
theorem l_11_94 : lres 11 94 = some (.float 1148846080) := by rfl
theorem l_12_13 : lres 12 13 = some (.float 1092616192) := by rfl
theorem l_12_190 : lres 12 190 = some (.float 1148846080) := by rfl
theorem l_12_191 : lres 12 191 = some (.float 1120403456) := by rfl
theorem l_12_270 : lres 12 270 = some (.float 3212836864) := by rfl
theorem l_14_265 : lres 14 265 = some (.int 1431655765) := by rfl
theorem l_14_266 : lres 14 266 = some (.int 858993459) := by rfl
theorem l_14_267 : lres 14 267 = some (.int 252645135) := by rfl
theorem l_6_19 : lres 6 19 = some (.float 1092616192) := by rfl
theorem n_0_0 : ffin 0 0 = false := by decide +kernel
theorem n_0_1 : ffin 0 1 = false := by decide +kernel
theorem n_0_2 : ffin 0 2 = false := by decide +kernel
theorem n_0_3 : ffin 0 3 = false := by decide +kernel
theorem n_0_4 : ffin 0 4 = false := by decide +kernel
theorem n_0_5 : ffin 0 5 = false := by decide +kernel
theorem n_10_0 : ffin 10 0 = false := by decide +kernel
theorem n_10_1 : ffin 10 1 = false := by decide +kernel
theorem n_10_2 : ffin 10 2 = false := by decide +kernel
theorem n_10_5 : ffin 10 5 = false := by decide +kernel
theorem n_11_5 : ffin 11 5 = false := by decide +kernel
theorem n_12_0 : ffin 12 0 = false := by decide +kernel
theorem n_12_1 : ffin 12 1 = false := by decide +kernel
theorem n_12_2 : ffin 12 2 = false := by decide +kernel
theorem n_12_3 : ffin 12 3 = false := by decide +kernel
theorem n_12_39 : ffin 12 39 = false := by decide +kernel
theorem n_12_4 : ffin 12 4 = false := by decide +kernel
theorem n_12_40 : ffin 12 40 = false := by decide +kernel
theorem n_12_47 : ffin 12 47 = false := by decide +kernel
theorem n_12_50 : ffin 12 50 = false := by decide +kernel
theorem n_2_0 : ffin 2 0 = false := by decide +kernel
theorem n_2_1 : ffin 2 1 = false := by decide +kernel
theorem n_2_2 : ffin 2 2 = false := by decide +kernel
theorem n_2_3 : ffin 2 3 = false := by decide +kernel
theorem n_2_4 : ffin 2 4 = false := by decide +kernel
theorem n_2_5 : ffin 2 5 = false := by decide +kernel
theorem n_2_6 : ffin 2 6 = false := by decide +kernel
theorem n_2_7 : ffin 2 7 = false := by decide +kernel
theorem n_2_8 : ffin 2 8 = false := by decide +kernel
theorem n_2_9 : ffin 2 9 = false := by decide +kernel
theorem n_4_2 : ffin 4 2 = false := by decide +kernel
theorem n_4_3 : ffin 4 3 = false := by decide +kernel
theorem n_4_4 : ffin 4 4 = false := by decide +kernel
theorem n_5_2 : ffin 5 2 = false := by decide +kernel
theorem n_5_4 : ffin 5 4 = false := by decide +kernel
theorem n_5_5 : ffin 5 5 = false := by decide +kernel
theorem n_6_2 : ffin 6 2 = false := by decide +kernel
theorem n_6_3 : ffin 6 3 = false := by decide +kernel
theorem n_7_1 : ffin 7 1 = false := by decide +kernel
theorem n_8_10 : ffin 8 10 = false := by decide +kernel
theorem n_8_11 : ffin 8 11 = false := by decide +kernel
theorem n_8_12 : ffin 8 12 = false := by decide +kernel
theorem n_8_13 : ffin 8 13 = false := by decide +kernel
theorem n_8_4 : ffin 8 4 = false := by decide +kernel
theorem n_8_5 : ffin 8 5 = false := by decide +kernel
theorem n_8_6 : ffin 8 6 = false := by decide +kernel
theorem n_8_7 : ffin 8 7 = false := by decide +kernel
theorem n_8_8 : ffin 8 8 = false := by decide +kernel
theorem n_8_9 : ffin 8 9 = false := by decide +kernel
theorem n_9_0 : ffin 9 0 = false := by decide +kernel
theorem n_9_1 : ffin 9 1 = false := by decide +kernel
theorem n_9_10 : ffin 9 10 = false := by decide +kernel
theorem n_9_11 : ffin 9 11 = false := by decide +kernel
theorem n_9_12 : ffin 9 12 = false := by decide +kernel
theorem n_9_13 : ffin 9 13 = false := by decide +kernel
theorem n_9_2 : ffin 9 2 = false := by decide +kernel
theorem n_9_3 : ffin 9 3 = false := by decide +kernel
theorem n_9_4 : ffin 9 4 = false := by decide +kernel
theorem n_9_5 : ffin 9 5 = false := by decide +kernel
theorem n_9_6 : ffin 9 6 = false := by decide +kernel
theorem n_9_7 : ffin 9 7 = false := by decide +kernel
theorem n_9_8 : ffin 9 8 = false := by decide +kernel
theorem nr_10_9 : nres 10 9 = some 9 := by decide +kernel
theorem nr_11_15 : nres 11 15 = some 10 := by decide +kernel
theorem nr_11_216 : nres 11 216 = some 3 := by decide +kernel
theorem nr_11_22 : nres 11 22 = some 6 := by decide +kernel
theorem nr_11_31 : nres 11 31 = some 1 := by decide +kernel
theorem nr_11_38 : nres 11 38 = some 4 := by decide +kernel
theorem nr_11_9 : nres 11 9 = some 8 := by decide +kernel
theorem nr_13_8 : nres 13 8 = some 11 := by decide +kernel
theorem nr_13_88 : nres 13 88 = some 12 := by decide +kernel
theorem nr_4_9 : nres 4 9 = some 0 := by decide +kernel
theorem nr_8_18 : nres 8 18 = some 5 := by decide +kernel
theorem nr_8_25 : nres 8 25 = some 2 := by decide +kernel
theorem nr_8_9 : nres 8 9 = some 7 := by decide +kernel
theorem t_0_0 : ftyp 0 0 = 3 := by decide +kernel
theorem t_0_1 : ftyp 0 1 = 0 := by decide +kernel
theorem t_0_2 : ftyp 0 2 = 0 := by decide +kernel
theorem t_0_3 : ftyp 0 3 = 0 := by decide +kernel
theorem t_0_4 : ftyp 0 4 = 0 := by decide +kernel
theorem t_0_5 : ftyp 0 5 = 0 := by decide +kernel
theorem t_1_0 : ftyp 1 0 = 2 := by decide +kernel
theorem t_1_1 : ftyp 1 1 = 2 := by decide +kernel
theorem t_10_0 : ftyp 10 0 = 0 := by decide +kernel
theorem t_10_1 : ftyp 10 1 = 0 := by decide +kernel
theorem t_10_2 : ftyp 10 2 = 0 := by decide +kernel
theorem t_10_3 : ftyp 10 3 = 2 := by decide +kernel
theorem t_10_4 : ftyp 10 4 = 2 := by decide +kernel
theorem t_10_5 : ftyp 10 5 = 2 := by decide +kernel
theorem t_10_6 : ftyp 10 6 = 2 := by decide +kernel
theorem t_11_0 : ftyp 11 0 = 2 := by decide +kernel
theorem t_11_1 : ftyp 11 1 = 2 := by decide +kernel
theorem t_11_2 : ftyp 11 2 = 2 := by decide +kernel
theorem t_11_3 : ftyp 11 3 = 2 := by decide +kernel
theorem t_11_4 : ftyp 11 4 = 2 := by decide +kernel
theorem t_11_5 : ftyp 11 5 = 1 := by decide +kernel
theorem t_12_0 : ftyp 12 0 = 0 := by decide +kernel
theorem t_12_1 : ftyp 12 1 = 1 := by decide +kernel
theorem t_12_10 : ftyp 12 10 = 2 := by decide +kernel
theorem t_12_11 : ftyp 12 11 = 2 := by decide +kernel
theorem t_12_12 : ftyp 12 12 = 2 := by decide +kernel
theorem t_12_13 : ftyp 12 13 = 2 := by decide +kernel
theorem t_12_14 : ftyp 12 14 = 2 := by decide +kernel
theorem t_12_15 : ftyp 12 15 = 2 := by decide +kernel
theorem t_12_16 : ftyp 12 16 = 2 := by decide +kernel
theorem t_12_17 : ftyp 12 17 = 2 := by decide +kernel
theorem t_12_18 : ftyp 12 18 = 2 := by decide +kernel
theorem t_12_19 : ftyp 12 19 = 2 := by decide +kernel
theorem t_12_2 : ftyp 12 2 = 1 := by decide +kernel
theorem t_12_20 : ftyp 12 20 = 2 := by decide +kernel
theorem t_12_21 : ftyp 12 21 = 2 := by decide +kernel
theorem t_12_22 : ftyp 12 22 = 2 := by decide +kernel
theorem t_12_23 : ftyp 12 23 = 2 := by decide +kernel
theorem t_12_24 : ftyp 12 24 = 2 := by decide +kernel
theorem t_12_25 : ftyp 12 25 = 2 := by decide +kernel
theorem t_12_26 : ftyp 12 26 = 2 := by decide +kernel
theorem t_12_27 : ftyp 12 27 = 2 := by decide +kernel
theorem t_12_28 : ftyp 12 28 = 2 := by decide +kernel
theorem t_12_29 : ftyp 12 29 = 2 := by decide +kernel
theorem t_12_3 : ftyp 12 3 = 1 := by decide +kernel
theorem t_12_30 : ftyp 12 30 = 2 := by decide +kernel
theorem t_12_31 : ftyp 12 31 = 2 := by decide +kernel
theorem t_12_32 : ftyp 12 32 = 2 := by decide +kernel
theorem t_12_33 : ftyp 12 33 = 2 := by decide +kernel
theorem t_12_34 : ftyp 12 34 = 2 := by decide +kernel
theorem t_12_35 : ftyp 12 35 = 2 := by decide +kernel
theorem t_12_36 : ftyp 12 36 = 2 := by decide +kernel
theorem t_12_37 : ftyp 12 37 = 2 := by decide +kernel
theorem t_12_38 : ftyp 12 38 = 2 := by decide +kernel
theorem t_12_39 : ftyp 12 39 = 0 := by decide +kernel
theorem t_12_4 : ftyp 12 4 = 0 := by decide +kernel
theorem t_12_40 : ftyp 12 40 = 0 := by decide +kernel
theorem t_12_41 : ftyp 12 41 = 2 := by decide +kernel
theorem t_12_42 : ftyp 12 42 = 2 := by decide +kernel
theorem t_12_43 : ftyp 12 43 = 2 := by decide +kernel
theorem t_12_44 : ftyp 12 44 = 2 := by decide +kernel
theorem t_12_45 : ftyp 12 45 = 2 := by decide +kernel
theorem t_12_46 : ftyp 12 46 = 2 := by decide +kernel
theorem t_12_47 : ftyp 12 47 = 0 := by decide +kernel
theorem t_12_48 : ftyp 12 48 = 2 := by decide +kernel
theorem t_12_49 : ftyp 12 49 = 2 := by decide +kernel
theorem t_12_5 : ftyp 12 5 = 2 := by decide +kernel
theorem t_12_50 : ftyp 12 50 = 0 := by decide +kernel
theorem t_12_6 : ftyp 12 6 = 2 := by decide +kernel
theorem t_12_7 : ftyp 12 7 = 2 := by decide +kernel
theorem t_12_8 : ftyp 12 8 = 2 := by decide +kernel
theorem t_12_9 : ftyp 12 9 = 2 := by decide +kernel
theorem t_2_0 : ftyp 2 0 = 0 := by decide +kernel
theorem t_2_1 : ftyp 2 1 = 0 := by decide +kernel
theorem t_2_2 : ftyp 2 2 = 0 := by decide +kernel
theorem t_2_3 : ftyp 2 3 = 0 := by decide +kernel
theorem t_2_4 : ftyp 2 4 = 0 := by decide +kernel
theorem t_2_5 : ftyp 2 5 = 0 := by decide +kernel
theorem t_2_6 : ftyp 2 6 = 3 := by decide +kernel
theorem t_2_7 : ftyp 2 7 = 0 := by decide +kernel
theorem t_2_8 : ftyp 2 8 = 0 := by decide +kernel
theorem t_2_9 : ftyp 2 9 = 0 := by decide +kernel
theorem t_3_0 : ftyp 3 0 = 0 := by decide +kernel
theorem t_3_1 : ftyp 3 1 = 0 := by decide +kernel
theorem t_3_2 : ftyp 3 2 = 0 := by decide +kernel
theorem t_3_3 : ftyp 3 3 = 0 := by decide +kernel
theorem t_4_0 : ftyp 4 0 = 2 := by decide +kernel
theorem t_4_1 : ftyp 4 1 = 2 := by decide +kernel
theorem t_4_2 : ftyp 4 2 = 0 := by decide +kernel
theorem t_4_3 : ftyp 4 3 = 0 := by decide +kernel
theorem t_4_4 : ftyp 4 4 = 0 := by decide +kernel
theorem t_5_0 : ftyp 5 0 = 2 := by decide +kernel
theorem t_5_1 : ftyp 5 1 = 2 := by decide +kernel
theorem t_5_2 : ftyp 5 2 = 0 := by decide +kernel
theorem t_5_3 : ftyp 5 3 = 2 := by decide +kernel
theorem t_5_4 : ftyp 5 4 = 3 := by decide +kernel
theorem t_5_5 : ftyp 5 5 = 1 := by decide +kernel
theorem t_6_0 : ftyp 6 0 = 2 := by decide +kernel
theorem t_6_1 : ftyp 6 1 = 2 := by decide +kernel
theorem t_6_2 : ftyp 6 2 = 1 := by decide +kernel
theorem t_6_3 : ftyp 6 3 = 1 := by decide +kernel
theorem t_7_0 : ftyp 7 0 = 2 := by decide +kernel
theorem t_7_1 : ftyp 7 1 = 0 := by decide +kernel
theorem t_8_0 : ftyp 8 0 = 0 := by decide +kernel
theorem t_8_1 : ftyp 8 1 = 2 := by decide +kernel
theorem t_8_10 : ftyp 8 10 = 0 := by decide +kernel
theorem t_8_11 : ftyp 8 11 = 0 := by decide +kernel
theorem t_8_12 : ftyp 8 12 = 0 := by decide +kernel
theorem t_8_13 : ftyp 8 13 = 1 := by decide +kernel
theorem t_8_2 : ftyp 8 2 = 2 := by decide +kernel
theorem t_8_3 : ftyp 8 3 = 2 := by decide +kernel
theorem t_8_4 : ftyp 8 4 = 3 := by decide +kernel
theorem t_8_5 : ftyp 8 5 = 1 := by decide +kernel
theorem t_8_6 : ftyp 8 6 = 1 := by decide +kernel
theorem t_8_7 : ftyp 8 7 = 0 := by decide +kernel
theorem t_8_8 : ftyp 8 8 = 0 := by decide +kernel
theorem t_8_9 : ftyp 8 9 = 0 := by decide +kernel
theorem t_9_0 : ftyp 9 0 = 0 := by decide +kernel
theorem t_9_1 : ftyp 9 1 = 0 := by decide +kernel
theorem t_9_10 : ftyp 9 10 = 0 := by decide +kernel
theorem t_9_11 : ftyp 9 11 = 0 := by decide +kernel
theorem t_9_12 : ftyp 9 12 = 0 := by decide +kernel
theorem t_9_13 : ftyp 9 13 = 0 := by decide +kernel
theorem t_9_2 : ftyp 9 2 = 0 := by decide +kernel
theorem t_9_3 : ftyp 9 3 = 0 := by decide +kernel
theorem t_9_4 : ftyp 9 4 = 0 := by decide +kernel
theorem t_9_5 : ftyp 9 5 = 0 := by decide +kernel
theorem t_9_6 : ftyp 9 6 = 0 := by decide +kernel
theorem t_9_7 : ftyp 9 7 = 1 := by decide +kernel
theorem t_9_8 : ftyp 9 8 = 3 := by decide +kernel
theorem t_9_9 : ftyp 9 9 = 2 := by decide +kernel
theorem tw_X11_act_13 : thw mX11_act 13 182 = some 3 := by decide +kernel
theorem tw_X11_act_84 : thw mX11_act 84 51 = some 1 := by decide +kernel
theorem tw_X11_beat_21 : thw mX11_beat 21 127 = some 2 := by decide +kernel
theorem tw_X11_begin_10 : thw mX11_begin 10 51 = some 1 := by decide +kernel
theorem tw_X11_cut_17 : thw mX11_cut 17 51 = some 1 := by decide +kernel
theorem tw_X11_decision_68 : thw mX11_decision 68 51 = some 1 := by decide +kernel
theorem tw_X11_deliver_39 : thw mX11_deliver 39 127 = some 2 := by decide +kernel
theorem tw_X11_entry_19 : thw mX11_entry 19 182 = some 3 := by decide +kernel
theorem tw_X11_entry_84 : thw mX11_entry 84 51 = some 1 := by decide +kernel
theorem tw_X11_message_65 : thw mX11_message 65 51 = some 1 := by decide +kernel
theorem tw_X11_needChoice_9 : thw mX11_needChoice 9 182 = some 3 := by decide +kernel
theorem tw_X11_needMachine_15 : thw mX11_needMachine 15 182 = some 3 := by decide +kernel
theorem tw_X11_needMessage_13 : thw mX11_needMessage 13 182 = some 3 := by decide +kernel
theorem tw_X11_needRange_10 : thw mX11_needRange 10 51 = some 1 := by decide +kernel
theorem tw_X11_of_121 : thw mX11_of 121 51 = some 1 := by decide +kernel
theorem tw_X11_propose_31 : thw mX11_propose 31 127 = some 2 := by decide +kernel
theorem tw_X11_read_37 : thw mX11_read 37 127 = some 2 := by decide +kernel
theorem tw_X11_request_121 : thw mX11_request 121 127 = some 2 := by decide +kernel
theorem tw_X11_request_16 : thw mX11_request 16 182 = some 3 := by decide +kernel
theorem tw_X11_request_68 : thw mX11_request 68 51 = some 1 := by decide +kernel
theorem tw_X11_stand_28 : thw mX11_stand 28 127 = some 2 := by decide +kernel
theorem nx_11_127 : nres 11 127 = none := by decide +kernel
theorem nx_11_182 : nres 11 182 = none := by decide +kernel
theorem nx_11_51 : nres 11 51 = none := by decide +kernel
