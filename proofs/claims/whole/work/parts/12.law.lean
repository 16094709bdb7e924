/-! the law from its loop on, as a function -/
def Law_c18 (xs : Nat → Int32) (L0 : Nat) : Nat → Int32 → zSt → Option (Int32 × zSt)
  | 0, _, _ => none
  | n + 1, l3, σ => if ((Int32.ofNat L0) - 4) < l3 then (some (1, σ)) else ((zsdq xs L0 202 l3).bind fun v1 => if (v1 &&& 63) = 0 then ((zsdq xs L0 202 (l3 + 1)).bind fun v3 => zb2 (X_points v3 σ) fun v4 σ5 => (zsdq xs L0 202 (l3 + 1)).bind fun v6 => zb2 (M_points v6 σ5) fun v7 σ8 => if v4 = v7 then (Law_c18 xs L0 n (l3 + 4) σ8) else (some (0, σ8))) else (if (v1 &&& 63) = 1 then ((zsdq xs L0 202 (l3 + 1)).bind fun v11 => (zsdq xs L0 202 (l3 + 2)).bind fun v12 => (zsdq xs L0 202 (l3 + 3)).bind fun v13 => zb2 (X_line v11 v12 v13 σ) fun v14 σ15 => (zsdq xs L0 202 (l3 + 1)).bind fun v16 => (zsdq xs L0 202 (l3 + 2)).bind fun v17 => (zsdq xs L0 202 (l3 + 3)).bind fun v18 => zb2 (M_line v16 v17 v18 σ15) fun v19 σ20 => if v14 = v19 then (Law_c18 xs L0 n (l3 + 4) σ20) else (some (0, σ20))) else (if (v1 &&& 63) = 2 then ((zsdq xs L0 202 (l3 + 1)).bind fun v23 => (zsdq xs L0 202 (l3 + 2)).bind fun v24 => zb2 (X_kind v23 v24 σ) fun v25 σ26 => (zsdq xs L0 202 (l3 + 1)).bind fun v27 => (zsdq xs L0 202 (l3 + 2)).bind fun v28 => zb2 (M_kind v27 v28 σ26) fun v29 σ30 => if v25 = v29 then (Law_c18 xs L0 n (l3 + 4) σ30) else (some (0, σ30))) else (if (v1 &&& 63) = 3 then ((zsdq xs L0 202 (l3 + 1)).bind fun v33 => (zsdq xs L0 202 (l3 + 2)).bind fun v34 => zb2 (X_cost v33 v34 σ) fun v35 σ36 => (zsdq xs L0 202 (l3 + 1)).bind fun v37 => (zsdq xs L0 202 (l3 + 2)).bind fun v38 => zb2 (M_cost v37 v38 σ36) fun v39 σ40 => if v35 = v39 then (Law_c18 xs L0 n (l3 + 4) σ40) else (some (0, σ40))) else (if (v1 &&& 63) = 4 then ((zsdq xs L0 202 (l3 + 1)).bind fun v43 => (zsdq xs L0 202 (l3 + 2)).bind fun v44 => zb2 (X_rule v43 v44 σ) fun v45 σ46 => (zsdq xs L0 202 (l3 + 1)).bind fun v47 => (zsdq xs L0 202 (l3 + 2)).bind fun v48 => zb2 (M_rule v47 v48 σ46) fun v49 σ50 => if v45 = v49 then (Law_c18 xs L0 n (l3 + 4) σ50) else (some (0, σ50))) else (if (v1 &&& 63) = 5 then ((zsdq xs L0 202 (l3 + 1)).bind fun v53 => (zsdq xs L0 202 (l3 + 2)).bind fun v54 => (X_of v53 v54 σ).bind fun v55 => (zsdq xs L0 202 (l3 + 1)).bind fun v56 => (zsdq xs L0 202 (l3 + 2)).bind fun v57 => (M_of v56 v57 σ).bind fun v58 => if v55 = v58 then (Law_c18 xs L0 n (l3 + 4) σ) else (some (0, σ))) else (if (v1 &&& 63) = 6 then ((zsdq xs L0 202 (l3 + 1)).bind fun v61 => zb2 (X_round v61 σ) fun v62 σ63 => (zsdq xs L0 202 (l3 + 1)).bind fun v64 => zb2 (M_round_ v64 σ63) fun v65 σ66 => if v62 = v65 then (Law_c18 xs L0 n (l3 + 4) σ66) else (some (0, σ66))) else (if (v1 &&& 63) = 7 then ((zsdq xs L0 202 (l3 + 1)).bind fun v69 => zb2 (X_closure v69 σ) fun v70 σ71 => (zsdq xs L0 202 (l3 + 1)).bind fun v72 => zb2 (M_closure v72 σ71) fun v73 σ74 => if v70 = v73 then (Law_c18 xs L0 n (l3 + 4) σ74) else (some (0, σ74))) else (if (v1 &&& 63) = 8 then ((zsdq xs L0 202 (l3 + 1)).bind fun v77 => zb2 (X_time v77 σ) fun v78 σ79 => (zsdq xs L0 202 (l3 + 1)).bind fun v80 => zb2 (M_time v80 σ79) fun v81 σ82 => if v78 = v81 then (Law_c18 xs L0 n (l3 + 4) σ82) else (some (0, σ82))) else (if (v1 &&& 63) = 9 then ((zsdq xs L0 202 (l3 + 1)).bind fun v85 => zb2 (X_least v85 σ) fun v86 σ87 => (zsdq xs L0 202 (l3 + 1)).bind fun v88 => zb2 (M_least_ v88 σ87) fun v89 σ90 => if v86 = v89 then (Law_c18 xs L0 n (l3 + 4) σ90) else (some (0, σ90))) else (if (v1 &&& 63) = 10 then ((zsdq xs L0 202 (l3 + 1)).bind fun v93 => zb2 (X_cheapest v93 σ) fun v94 σ95 => (zsdq xs L0 202 (l3 + 1)).bind fun v96 => zb2 (M_cheapest v96 σ95) fun v97 σ98 => if v94 = v97 then (Law_c18 xs L0 n (l3 + 4) σ98) else (some (0, σ98))) else (if (v1 &&& 63) = 11 then ((zsdq xs L0 202 (l3 + 1)).bind fun v101 => zb2 (X_many v101 σ) fun v102 σ103 => (zsdq xs L0 202 (l3 + 1)).bind fun v104 => zb2 (M_many v104 σ103) fun v105 σ106 => if v102 = v105 then (Law_c18 xs L0 n (l3 + 4) σ106) else (some (0, σ106))) else (if (v1 &&& 63) = 12 then ((zsdq xs L0 202 (l3 + 1)).bind fun v109 => zb2 (X_throttle v109 σ) fun v110 σ111 => (zsdq xs L0 202 (l3 + 1)).bind fun v112 => zb2 (M_throttle v112 σ111) fun v113 σ114 => if v110 = v113 then (Law_c18 xs L0 n (l3 + 4) σ114) else (some (0, σ114))) else (if (v1 &&& 63) = 13 then ((zsdq xs L0 202 (l3 + 1)).bind fun v117 => zb2 (X_spread v117 σ) fun v118 σ119 => (zsdq xs L0 202 (l3 + 1)).bind fun v120 => zb2 (M_spread v120 σ119) fun v121 σ122 => if v118 = v121 then (Law_c18 xs L0 n (l3 + 4) σ122) else (some (0, σ122))) else (if (v1 &&& 63) = 14 then ((zsdq xs L0 202 (l3 + 1)).bind fun v125 => (zsdq xs L0 202 (l3 + 2)).bind fun v126 => zb2 (X_lineSpread v125 v126 σ) fun v127 σ128 => (zsdq xs L0 202 (l3 + 1)).bind fun v129 => (zsdq xs L0 202 (l3 + 2)).bind fun v130 => zb2 (M_lineSpread v129 v130 σ128) fun v131 σ132 => if v127 = v131 then (Law_c18 xs L0 n (l3 + 4) σ132) else (some (0, σ132))) else (if (v1 &&& 63) = 15 then ((zsdq xs L0 202 (l3 + 1)).bind fun v135 => zb2 (X_best v135 σ) fun v136 σ137 => (zsdq xs L0 202 (l3 + 1)).bind fun v138 => zb2 (M_best v138 σ137) fun v139 σ140 => if v136 = v139 then (Law_c18 xs L0 n (l3 + 4) σ140) else (some (0, σ140))) else (if (v1 &&& 63) = 16 then ((zsdq xs L0 202 (l3 + 1)).bind fun v143 => (zsdq xs L0 202 (l3 + 2)).bind fun v144 => (zsdq xs L0 202 (l3 + 3)).bind fun v145 => zb2 (X_chain v143 v144 v145 σ) fun v146 σ147 => (zsdq xs L0 202 (l3 + 1)).bind fun v148 => (zsdq xs L0 202 (l3 + 2)).bind fun v149 => (zsdq xs L0 202 (l3 + 3)).bind fun v150 => zb2 (M_chain v148 v149 v150 σ147) fun v151 σ152 => if v146 = v151 then (Law_c18 xs L0 n (l3 + 4) σ152) else (some (0, σ152))) else (if (v1 &&& 63) = 17 then ((zsdq xs L0 202 (l3 + 1)).bind fun v155 => zb2 (X_ends v155 σ) fun v156 σ157 => (zsdq xs L0 202 (l3 + 1)).bind fun v158 => zb2 (M_ends v158 σ157) fun v159 σ160 => if v156 = v159 then (Law_c18 xs L0 n (l3 + 4) σ160) else (some (0, σ160))) else (if (v1 &&& 63) = 18 then ((zsdq xs L0 202 (l3 + 1)).bind fun v163 => zb2 (X_fort v163 σ) fun v164 σ165 => (zsdq xs L0 202 (l3 + 1)).bind fun v166 => zb2 (M_fort v166 σ165) fun v167 σ168 => if v164 = v167 then (Law_c18 xs L0 n (l3 + 4) σ168) else (some (0, σ168))) else (if (v1 &&& 63) = 19 then ((zsdq xs L0 202 (l3 + 1)).bind fun v171 => (zsdq xs L0 202 (l3 + 2)).bind fun v172 => zb2 (X_forts v171 v172 σ) fun v173 σ174 => (zsdq xs L0 202 (l3 + 1)).bind fun v175 => (zsdq xs L0 202 (l3 + 2)).bind fun v176 => zb2 (M_forts_ v175 v176 σ174) fun v177 σ178 => if v173 = v177 then (Law_c18 xs L0 n (l3 + 4) σ178) else (some (0, σ178))) else (if (v1 &&& 63) = 20 then ((zsdq xs L0 202 (l3 + 1)).bind fun v181 => zb2 (X_innerFort v181 σ) fun v182 σ183 => (zsdq xs L0 202 (l3 + 1)).bind fun v184 => zb2 (M_innerFort v184 σ183) fun v185 σ186 => if v182 = v185 then (Law_c18 xs L0 n (l3 + 4) σ186) else (some (0, σ186))) else (if (v1 &&& 63) = 21 then ((zsdq xs L0 202 (l3 + 1)).bind fun v189 => zb2 (X_meets v189 σ) fun v190 σ191 => (zsdq xs L0 202 (l3 + 1)).bind fun v192 => zb2 (M_meets v192 σ191) fun v193 σ194 => if v190 = v193 then (Law_c18 xs L0 n (l3 + 4) σ194) else (some (0, σ194))) else (if (v1 &&& 63) = 22 then ((zsdq xs L0 202 (l3 + 1)).bind fun v197 => (zsdq xs L0 202 (l3 + 2)).bind fun v198 => (zsdq xs L0 202 (l3 + 3)).bind fun v199 => zb2 (X_table v197 v198 v199 σ) fun v200 σ201 => (zsdq xs L0 202 (l3 + 1)).bind fun v202 => (zsdq xs L0 202 (l3 + 2)).bind fun v203 => (zsdq xs L0 202 (l3 + 3)).bind fun v204 => zb2 (M_table v202 v203 v204 σ201) fun v205 σ206 => if v200 = v205 then (Law_c18 xs L0 n (l3 + 4) σ206) else (some (0, σ206))) else (if (v1 &&& 63) = 23 then ((zsdq xs L0 202 (l3 + 1)).bind fun v209 => (zsdq xs L0 202 (l3 + 2)).bind fun v210 => (X_entry v209 v210 σ).bind fun v211 => (zsdq xs L0 202 (l3 + 1)).bind fun v212 => (zsdq xs L0 202 (l3 + 2)).bind fun v213 => (M_entry v212 v213 σ).bind fun v214 => if v211 = v214 then (Law_c18 xs L0 n (l3 + 4) σ) else (some (0, σ))) else (if (v1 &&& 63) = 24 then ((zsdq xs L0 202 (l3 + 1)).bind fun v217 => zb2 (X_prime v217 σ) fun v218 σ219 => (zsdq xs L0 202 (l3 + 1)).bind fun v220 => zb2 (M_prime v220 σ219) fun v221 σ222 => if v218 = v221 then (Law_c18 xs L0 n (l3 + 4) σ222) else (some (0, σ222))) else (if (v1 &&& 63) = 25 then ((zsdq xs L0 202 (l3 + 1)).bind fun v225 => zb2 (X_rank v225 σ) fun v226 σ227 => (zsdq xs L0 202 (l3 + 1)).bind fun v228 => zb2 (M_rank v228 σ227) fun v229 σ230 => if v226 = v229 then (Law_c18 xs L0 n (l3 + 4) σ230) else (some (0, σ230))) else (if (v1 &&& 63) = 26 then ((zsdq xs L0 202 (l3 + 1)).bind fun v233 => (zsdq xs L0 202 (l3 + 2)).bind fun v234 => zb2 (X_kernel v233 v234 σ) fun v235 σ236 => (zsdq xs L0 202 (l3 + 1)).bind fun v237 => (zsdq xs L0 202 (l3 + 2)).bind fun v238 => zb2 (M_kernel v237 v238 σ236) fun v239 σ240 => if v235 = v239 then (Law_c18 xs L0 n (l3 + 4) σ240) else (some (0, σ240))) else (if (v1 &&& 63) = 27 then ((zsdq xs L0 202 (l3 + 1)).bind fun v243 => (zsdq xs L0 202 (l3 + 2)).bind fun v244 => zb2 (X_mend v243 v244 σ) fun v245 σ246 => (zsdq xs L0 202 (l3 + 1)).bind fun v247 => (zsdq xs L0 202 (l3 + 2)).bind fun v248 => zb2 (M_mend v247 v248 σ246) fun v249 σ250 => if v245 = v249 then (Law_c18 xs L0 n (l3 + 4) σ250) else (some (0, σ250))) else (if (v1 &&& 63) = 28 then ((zsdq xs L0 202 (l3 + 1)).bind fun v253 => (zsdq xs L0 202 (l3 + 2)).bind fun v254 => (zsdq xs L0 202 (l3 + 3)).bind fun v255 => zb2 (X_mendTwo v253 v254 v255 σ) fun v256 σ257 => (zsdq xs L0 202 (l3 + 1)).bind fun v258 => (zsdq xs L0 202 (l3 + 2)).bind fun v259 => (zsdq xs L0 202 (l3 + 3)).bind fun v260 => zb2 (M_mendTwo v258 v259 v260 σ257) fun v261 σ262 => if v256 = v261 then (Law_c18 xs L0 n (l3 + 4) σ262) else (some (0, σ262))) else (if (v1 &&& 63) = 29 then ((zsdq xs L0 202 (l3 + 1)).bind fun v265 => (zsdq xs L0 202 (l3 + 2)).bind fun v266 => (zsdq xs L0 202 (l3 + 3)).bind fun v267 => zb2 (X_fits v265 v266 v267 σ) fun v268 σ269 => (zsdq xs L0 202 (l3 + 1)).bind fun v270 => (zsdq xs L0 202 (l3 + 2)).bind fun v271 => (zsdq xs L0 202 (l3 + 3)).bind fun v272 => zb2 (M_fits v270 v271 v272 σ269) fun v273 σ274 => if v268 = v273 then (Law_c18 xs L0 n (l3 + 4) σ274) else (some (0, σ274))) else (if (v1 &&& 63) = 30 then ((zsdq xs L0 202 (l3 + 1)).bind fun v277 => (X_judge v277 σ).bind fun v278 => (zsdq xs L0 202 (l3 + 1)).bind fun v279 => zb2 (M_judge v279 σ) fun v280 σ281 => if v278 = v280 then (Law_c18 xs L0 n (l3 + 4) σ281) else (some (0, σ281))) else (if (v1 &&& 63) = 31 then (zb2 (X_undo σ) fun v284 σ285 => zb2 (M_undo σ285) fun v286 σ287 => if v284 = v286 then (Law_c18 xs L0 n (l3 + 4) σ287) else (some (0, σ287))) else (if (v1 &&& 63) = 32 then (zb2 (X_redo σ) fun v290 σ291 => zb2 (M_redo σ291) fun v292 σ293 => if v290 = v292 then (Law_c18 xs L0 n (l3 + 4) σ293) else (some (0, σ293))) else (if (v1 &&& 63) = 33 then ((zsdq xs L0 202 (l3 + 1)).bind fun v296 => zb2 (X_feed v296 σ) fun v297 σ298 => (zsdq xs L0 202 (l3 + 1)).bind fun v299 => zb2 (M_feed v299 σ298) fun v300 σ301 => if v297 = v300 then (Law_c18 xs L0 n (l3 + 4) σ301) else (some (0, σ301))) else (if (v1 &&& 63) = 34 then (zb2 (X_wipe σ) fun v304 σ305 => zb2 (M_wipe σ305) fun v306 σ307 => if v304 = v306 then (Law_c18 xs L0 n (l3 + 4) σ307) else (some (0, σ307))) else (if (v1 &&& 63) = 35 then (zb2 (X_read σ) fun v310 σ311 => zb2 (M_read σ311) fun v312 σ313 => if v310 = v312 then (Law_c18 xs L0 n (l3 + 4) σ313) else (some (0, σ313))) else (if (v1 &&& 63) = 36 then ((zsdq xs L0 202 (l3 + 1)).bind fun v316 => (zsdq xs L0 202 (l3 + 2)).bind fun v317 => zb2 (X_row v316 v317 σ) fun v318 σ319 => (zsdq xs L0 202 (l3 + 1)).bind fun v320 => (zsdq xs L0 202 (l3 + 2)).bind fun v321 => zb2 (M_row v320 v321 σ319) fun v322 σ323 => if v318 = v322 then (Law_c18 xs L0 n (l3 + 4) σ323) else (some (0, σ323))) else (if (v1 &&& 63) = 37 then ((zsdq xs L0 202 (l3 + 1)).bind fun v326 => (zsdq xs L0 202 (l3 + 2)).bind fun v327 => (zsdq xs L0 202 (l3 + 3)).bind fun v328 => zb2 (X_put v326 v327 v328 σ) fun v329 σ330 => (zsdq xs L0 202 (l3 + 1)).bind fun v331 => (zsdq xs L0 202 (l3 + 2)).bind fun v332 => (zsdq xs L0 202 (l3 + 3)).bind fun v333 => zb2 (M_put v331 v332 v333 σ330) fun v334 σ335 => if v329 = v334 then (Law_c18 xs L0 n (l3 + 4) σ335) else (some (0, σ335))) else (if (v1 &&& 63) = 38 then ((zsdq xs L0 202 (l3 + 1)).bind fun v338 => (zsdq xs L0 202 (l3 + 2)).bind fun v339 => (X_get v338 v339 σ).bind fun v340 => (zsdq xs L0 202 (l3 + 1)).bind fun v341 => (zsdq xs L0 202 (l3 + 2)).bind fun v342 => (M_get v341 v342 σ).bind fun v343 => if v340 = v343 then (Law_c18 xs L0 n (l3 + 4) σ) else (some (0, σ))) else (if (v1 &&& 63) = 39 then ((zsdq xs L0 202 (l3 + 1)).bind fun v346 => (zsdq xs L0 202 (l3 + 2)).bind fun v347 => (zsdq xs L0 202 (l3 + 3)).bind fun v348 => zb2 (X_film v346 v347 v348 σ) fun v349 σ350 => (zsdq xs L0 202 (l3 + 1)).bind fun v351 => (zsdq xs L0 202 (l3 + 2)).bind fun v352 => (zsdq xs L0 202 (l3 + 3)).bind fun v353 => zb2 (M_film v351 v352 v353 σ350) fun v354 σ355 => if v349 = v354 then (Law_c18 xs L0 n (l3 + 4) σ355) else (some (0, σ355))) else (if (v1 &&& 63) = 40 then ((zsdq xs L0 202 (l3 + 1)).bind fun v358 => (zsdq xs L0 202 (l3 + 2)).bind fun v359 => (zsdq xs L0 202 (l3 + 3)).bind fun v360 => zb2 (X_act v358 v359 v360 σ) fun v361 σ362 => (zsdq xs L0 202 (l3 + 1)).bind fun v363 => (zsdq xs L0 202 (l3 + 2)).bind fun v364 => (zsdq xs L0 202 (l3 + 3)).bind fun v365 => zb2 (M_act_ v363 v364 v365 σ362) fun v366 σ367 => if v361 = v366 then (Law_c18 xs L0 n (l3 + 4) σ367) else (some (0, σ367))) else (if (v1 &&& 63) = 41 then ((zsdq xs L0 202 (l3 + 1)).bind fun v370 => (X_trace v370 σ).bind fun v371 => (zsdq xs L0 202 (l3 + 1)).bind fun v372 => (M_trace v372 σ).bind fun v373 => if v371 = v373 then (Law_c18 xs L0 n (l3 + 4) σ) else (some (0, σ))) else (if (v1 &&& 63) = 42 then ((zsdq xs L0 202 (l3 + 1)).bind fun v376 => (zsdq xs L0 202 (l3 + 2)).bind fun v377 => (X_taken v376 v377 σ).bind fun v378 => (zsdq xs L0 202 (l3 + 1)).bind fun v379 => (zsdq xs L0 202 (l3 + 2)).bind fun v380 => (M_taken v379 v380 σ).bind fun v381 => if v378 = v381 then (Law_c18 xs L0 n (l3 + 4) σ) else (some (0, σ))) else (if (v1 &&& 63) = 43 then (zb2 (X_image σ) fun v384 σ385 => zb2 (M_image σ385) fun v386 σ387 => if v384 = v386 then (Law_c18 xs L0 n (l3 + 4) σ387) else (some (0, σ387))) else (if (v1 &&& 63) = 44 then (zb2 (X_back σ) fun v390 σ391 => zb2 (M_back σ391) fun v392 σ393 => if v390 = v392 then (Law_c18 xs L0 n (l3 + 4) σ393) else (some (0, σ393))) else (if (v1 &&& 63) = 45 then ((zsdq xs L0 202 (l3 + 1)).bind fun v396 => (X_count v396 σ).bind fun v397 => (zsdq xs L0 202 (l3 + 1)).bind fun v398 => zb2 (M_count v398 σ) fun v399 σ400 => if v397 = v399 then (Law_c18 xs L0 n (l3 + 4) σ400) else (some (0, σ400))) else (Law_c18 xs L0 n (l3 + 4) σ)))))))))))))))))))))))))))))))))))))))))))))))
theorem Law_g18 {xs : Nat → Int32} {L0 : Nat} : ∀ (n : Nat) {l3 : Int32} {σ : zSt} {r : Int32 × zSt}, Law_c18 xs L0 n l3 σ = some r → zGo zPT zmlc (zP_law xs L0) (18, [some (.ref 202), some (.ref 0), some (.ref 75), some (.int l3)], [], σ) (some (.int r.1), r.2) := by
  intro n
  induction n with
  | zero => intro l3 σ r h; cases h
  | succ n ih =>
    intro l3 σ r h
    rw [Law_c18] at h
    refine zGo.sts 5 (cf' := (23, [some (.ref 202), some (.ref 0), some (.ref 75), some (.int l3)], [.int ((Int32.ofNat L0) - 4), .int l3], σ)) rfl ?_
    by_cases hb402 : ((Int32.ofNat L0) - 4) < l3
    · replace h := zif_t hb402 h
      refine zC_gt_t rfl hb402 ?_
      refine zGo.sts 1 (cf' := (1517, [some (.ref 202), some (.ref 0), some (.ref 75), some (.int l3)], [.int 1], σ)) rfl ?_
      obtain rfl := Option.some.inj h
      exact zGo.ret rfl rfl
    · replace h := zif_f hb402 h
      refine zC_gt_f rfl hb402 ?_
      refine zGo.sts 2 (cf' := (28, [some (.ref 202), some (.ref 0), some (.ref 75), some (.int l3)], [.int l3, .ref 202], σ)) rfl ?_
      obtain ⟨v1, hv, h⟩ := zbd h
      refine zG_sd rfl hv ?_
      refine zGo.sts 2 (cf' := (32, [some (.ref 202), some (.ref 0), some (.ref 75), some (.int l3)], [.int (v1 &&& 63)], σ)) rfl ?_
      by_cases hb2 : (v1 &&& 63) = 0
      · replace h := zif_t hb2 h
        refine zG_sw rfl (zsw_t hb2) ?_
        refine zGo.sts 5 (cf' := (237, [some (.ref 202), some (.ref 0), some (.ref 75), some (.int l3)], [.int (l3 + 1), .ref 202, .ref 0], σ)) rfl ?_
        obtain ⟨v3, hv, h⟩ := zbd h
        refine zG_sd rfl hv ?_
        obtain ⟨v4, σ5, hv, h⟩ := zbd2 h
        refine zGo.call rfl rfl (X_points_g hv) ?_
        refine zGo.sts 5 (cf' := (246, [some (.ref 202), some (.ref 0), some (.ref 75), some (.int l3)], [.int (l3 + 1), .ref 202, .ref 75, .int v4], σ5)) rfl ?_
        obtain ⟨v6, hv, h⟩ := zbd h
        refine zG_sd rfl hv ?_
        obtain ⟨v7, σ8, hv, h⟩ := zbd2 h
        refine zGo.call rfl rfl (M_points_g hv) ?_
        by_cases hb9 : v4 = v7
        · replace h := zif_t hb9 h
          refine zC_eq_t rfl hb9 ?_
          refine zGo.sts 2 (cf' := (18, [some (.ref 202), some (.ref 0), some (.ref 75), some (.int (l3 + 4))], [], σ8)) rfl ?_
          exact ih h
        · replace h := zif_f hb9 h
          refine zC_eq_f rfl hb9 ?_
          refine zGo.sts 1 (cf' := (254, [some (.ref 202), some (.ref 0), some (.ref 75), some (.int l3)], [.int 0], σ8)) rfl ?_
          obtain rfl := Option.some.inj h
          exact zGo.ret rfl rfl
      · replace h := zif_f hb2 h
        by_cases hb10 : (v1 &&& 63) = 1
        · replace h := zif_t hb10 h
          refine zG_sw rfl ((zsw_f hb2).trans (zsw_t hb10)) ?_
          refine zGo.sts 5 (cf' := (260, [some (.ref 202), some (.ref 0), some (.ref 75), some (.int l3)], [.int (l3 + 1), .ref 202, .ref 0], σ)) rfl ?_
          obtain ⟨v11, hv, h⟩ := zbd h
          refine zG_sd rfl hv ?_
          refine zGo.sts 4 (cf' := (265, [some (.ref 202), some (.ref 0), some (.ref 75), some (.int l3)], [.int (l3 + 2), .ref 202, .int v11, .ref 0], σ)) rfl ?_
          obtain ⟨v12, hv, h⟩ := zbd h
          refine zG_sd rfl hv ?_
          refine zGo.sts 4 (cf' := (270, [some (.ref 202), some (.ref 0), some (.ref 75), some (.int l3)], [.int (l3 + 3), .ref 202, .int v12, .int v11, .ref 0], σ)) rfl ?_
          obtain ⟨v13, hv, h⟩ := zbd h
          refine zG_sd rfl hv ?_
          obtain ⟨v14, σ15, hv, h⟩ := zbd2 h
          refine zGo.call rfl rfl (X_line_g hv) ?_
          refine zGo.sts 5 (cf' := (279, [some (.ref 202), some (.ref 0), some (.ref 75), some (.int l3)], [.int (l3 + 1), .ref 202, .ref 75, .int v14], σ15)) rfl ?_
          obtain ⟨v16, hv, h⟩ := zbd h
          refine zG_sd rfl hv ?_
          refine zGo.sts 4 (cf' := (284, [some (.ref 202), some (.ref 0), some (.ref 75), some (.int l3)], [.int (l3 + 2), .ref 202, .int v16, .ref 75, .int v14], σ15)) rfl ?_
          obtain ⟨v17, hv, h⟩ := zbd h
          refine zG_sd rfl hv ?_
          refine zGo.sts 4 (cf' := (289, [some (.ref 202), some (.ref 0), some (.ref 75), some (.int l3)], [.int (l3 + 3), .ref 202, .int v17, .int v16, .ref 75, .int v14], σ15)) rfl ?_
          obtain ⟨v18, hv, h⟩ := zbd h
          refine zG_sd rfl hv ?_
          obtain ⟨v19, σ20, hv, h⟩ := zbd2 h
          refine zGo.call rfl rfl (M_line_g hv) ?_
          by_cases hb21 : v14 = v19
          · replace h := zif_t hb21 h
            refine zC_eq_t rfl hb21 ?_
            refine zGo.sts 2 (cf' := (18, [some (.ref 202), some (.ref 0), some (.ref 75), some (.int (l3 + 4))], [], σ20)) rfl ?_
            exact ih h
          · replace h := zif_f hb21 h
            refine zC_eq_f rfl hb21 ?_
            refine zGo.sts 1 (cf' := (297, [some (.ref 202), some (.ref 0), some (.ref 75), some (.int l3)], [.int 0], σ20)) rfl ?_
            obtain rfl := Option.some.inj h
            exact zGo.ret rfl rfl
        · replace h := zif_f hb10 h
          by_cases hb22 : (v1 &&& 63) = 2
          · replace h := zif_t hb22 h
            refine zG_sw rfl ((zsw_f hb2).trans ((zsw_f hb10).trans (zsw_t hb22))) ?_
            refine zGo.sts 5 (cf' := (303, [some (.ref 202), some (.ref 0), some (.ref 75), some (.int l3)], [.int (l3 + 1), .ref 202, .ref 0], σ)) rfl ?_
            obtain ⟨v23, hv, h⟩ := zbd h
            refine zG_sd rfl hv ?_
            refine zGo.sts 4 (cf' := (308, [some (.ref 202), some (.ref 0), some (.ref 75), some (.int l3)], [.int (l3 + 2), .ref 202, .int v23, .ref 0], σ)) rfl ?_
            obtain ⟨v24, hv, h⟩ := zbd h
            refine zG_sd rfl hv ?_
            obtain ⟨v25, σ26, hv, h⟩ := zbd2 h
            refine zGo.call rfl rfl (X_kind_g hv) ?_
            refine zGo.sts 5 (cf' := (317, [some (.ref 202), some (.ref 0), some (.ref 75), some (.int l3)], [.int (l3 + 1), .ref 202, .ref 75, .int v25], σ26)) rfl ?_
            obtain ⟨v27, hv, h⟩ := zbd h
            refine zG_sd rfl hv ?_
            refine zGo.sts 4 (cf' := (322, [some (.ref 202), some (.ref 0), some (.ref 75), some (.int l3)], [.int (l3 + 2), .ref 202, .int v27, .ref 75, .int v25], σ26)) rfl ?_
            obtain ⟨v28, hv, h⟩ := zbd h
            refine zG_sd rfl hv ?_
            obtain ⟨v29, σ30, hv, h⟩ := zbd2 h
            refine zGo.call rfl rfl (M_kind_g hv) ?_
            by_cases hb31 : v25 = v29
            · replace h := zif_t hb31 h
              refine zC_eq_t rfl hb31 ?_
              refine zGo.sts 2 (cf' := (18, [some (.ref 202), some (.ref 0), some (.ref 75), some (.int (l3 + 4))], [], σ30)) rfl ?_
              exact ih h
            · replace h := zif_f hb31 h
              refine zC_eq_f rfl hb31 ?_
              refine zGo.sts 1 (cf' := (330, [some (.ref 202), some (.ref 0), some (.ref 75), some (.int l3)], [.int 0], σ30)) rfl ?_
              obtain rfl := Option.some.inj h
              exact zGo.ret rfl rfl
          · replace h := zif_f hb22 h
            by_cases hb32 : (v1 &&& 63) = 3
            · replace h := zif_t hb32 h
              refine zG_sw rfl ((zsw_f hb2).trans ((zsw_f hb10).trans ((zsw_f hb22).trans (zsw_t hb32)))) ?_
              refine zGo.sts 5 (cf' := (336, [some (.ref 202), some (.ref 0), some (.ref 75), some (.int l3)], [.int (l3 + 1), .ref 202, .ref 0], σ)) rfl ?_
              obtain ⟨v33, hv, h⟩ := zbd h
              refine zG_sd rfl hv ?_
              refine zGo.sts 4 (cf' := (341, [some (.ref 202), some (.ref 0), some (.ref 75), some (.int l3)], [.int (l3 + 2), .ref 202, .int v33, .ref 0], σ)) rfl ?_
              obtain ⟨v34, hv, h⟩ := zbd h
              refine zG_sd rfl hv ?_
              obtain ⟨v35, σ36, hv, h⟩ := zbd2 h
              refine zGo.call rfl rfl (X_cost_g hv) ?_
              refine zGo.sts 5 (cf' := (350, [some (.ref 202), some (.ref 0), some (.ref 75), some (.int l3)], [.int (l3 + 1), .ref 202, .ref 75, .int v35], σ36)) rfl ?_
              obtain ⟨v37, hv, h⟩ := zbd h
              refine zG_sd rfl hv ?_
              refine zGo.sts 4 (cf' := (355, [some (.ref 202), some (.ref 0), some (.ref 75), some (.int l3)], [.int (l3 + 2), .ref 202, .int v37, .ref 75, .int v35], σ36)) rfl ?_
              obtain ⟨v38, hv, h⟩ := zbd h
              refine zG_sd rfl hv ?_
              obtain ⟨v39, σ40, hv, h⟩ := zbd2 h
              refine zGo.call rfl rfl (M_cost_g hv) ?_
              by_cases hb41 : v35 = v39
              · replace h := zif_t hb41 h
                refine zC_eq_t rfl hb41 ?_
                refine zGo.sts 2 (cf' := (18, [some (.ref 202), some (.ref 0), some (.ref 75), some (.int (l3 + 4))], [], σ40)) rfl ?_
                exact ih h
              · replace h := zif_f hb41 h
                refine zC_eq_f rfl hb41 ?_
                refine zGo.sts 1 (cf' := (363, [some (.ref 202), some (.ref 0), some (.ref 75), some (.int l3)], [.int 0], σ40)) rfl ?_
                obtain rfl := Option.some.inj h
                exact zGo.ret rfl rfl
            · replace h := zif_f hb32 h
              by_cases hb42 : (v1 &&& 63) = 4
              · replace h := zif_t hb42 h
                refine zG_sw rfl ((zsw_f hb2).trans ((zsw_f hb10).trans ((zsw_f hb22).trans ((zsw_f hb32).trans (zsw_t hb42))))) ?_
                refine zGo.sts 5 (cf' := (369, [some (.ref 202), some (.ref 0), some (.ref 75), some (.int l3)], [.int (l3 + 1), .ref 202, .ref 0], σ)) rfl ?_
                obtain ⟨v43, hv, h⟩ := zbd h
                refine zG_sd rfl hv ?_
                refine zGo.sts 4 (cf' := (374, [some (.ref 202), some (.ref 0), some (.ref 75), some (.int l3)], [.int (l3 + 2), .ref 202, .int v43, .ref 0], σ)) rfl ?_
                obtain ⟨v44, hv, h⟩ := zbd h
                refine zG_sd rfl hv ?_
                obtain ⟨v45, σ46, hv, h⟩ := zbd2 h
                refine zGo.call rfl rfl (X_rule_g hv) ?_
                refine zGo.sts 5 (cf' := (383, [some (.ref 202), some (.ref 0), some (.ref 75), some (.int l3)], [.int (l3 + 1), .ref 202, .ref 75, .int v45], σ46)) rfl ?_
                obtain ⟨v47, hv, h⟩ := zbd h
                refine zG_sd rfl hv ?_
                refine zGo.sts 4 (cf' := (388, [some (.ref 202), some (.ref 0), some (.ref 75), some (.int l3)], [.int (l3 + 2), .ref 202, .int v47, .ref 75, .int v45], σ46)) rfl ?_
                obtain ⟨v48, hv, h⟩ := zbd h
                refine zG_sd rfl hv ?_
                obtain ⟨v49, σ50, hv, h⟩ := zbd2 h
                refine zGo.call rfl rfl (M_rule_g hv) ?_
                by_cases hb51 : v45 = v49
                · replace h := zif_t hb51 h
                  refine zC_eq_t rfl hb51 ?_
                  refine zGo.sts 2 (cf' := (18, [some (.ref 202), some (.ref 0), some (.ref 75), some (.int (l3 + 4))], [], σ50)) rfl ?_
                  exact ih h
                · replace h := zif_f hb51 h
                  refine zC_eq_f rfl hb51 ?_
                  refine zGo.sts 1 (cf' := (396, [some (.ref 202), some (.ref 0), some (.ref 75), some (.int l3)], [.int 0], σ50)) rfl ?_
                  obtain rfl := Option.some.inj h
                  exact zGo.ret rfl rfl
              · replace h := zif_f hb42 h
                by_cases hb52 : (v1 &&& 63) = 5
                · replace h := zif_t hb52 h
                  refine zG_sw rfl ((zsw_f hb2).trans ((zsw_f hb10).trans ((zsw_f hb22).trans ((zsw_f hb32).trans ((zsw_f hb42).trans (zsw_t hb52)))))) ?_
                  refine zGo.sts 5 (cf' := (402, [some (.ref 202), some (.ref 0), some (.ref 75), some (.int l3)], [.int (l3 + 1), .ref 202, .ref 0], σ)) rfl ?_
                  obtain ⟨v53, hv, h⟩ := zbd h
                  refine zG_sd rfl hv ?_
                  refine zGo.sts 4 (cf' := (407, [some (.ref 202), some (.ref 0), some (.ref 75), some (.int l3)], [.int (l3 + 2), .ref 202, .int v53, .ref 0], σ)) rfl ?_
                  obtain ⟨v54, hv, h⟩ := zbd h
                  refine zG_sd rfl hv ?_
                  obtain ⟨v55, hv, h⟩ := zbd h
                  refine zGo.call rfl rfl (X_of_g hv) ?_
                  refine zGo.sts 5 (cf' := (416, [some (.ref 202), some (.ref 0), some (.ref 75), some (.int l3)], [.int (l3 + 1), .ref 202, .ref 75, .int v55], σ)) rfl ?_
                  obtain ⟨v56, hv, h⟩ := zbd h
                  refine zG_sd rfl hv ?_
                  refine zGo.sts 4 (cf' := (421, [some (.ref 202), some (.ref 0), some (.ref 75), some (.int l3)], [.int (l3 + 2), .ref 202, .int v56, .ref 75, .int v55], σ)) rfl ?_
                  obtain ⟨v57, hv, h⟩ := zbd h
                  refine zG_sd rfl hv ?_
                  obtain ⟨v58, hv, h⟩ := zbd h
                  refine zGo.call rfl rfl (M_of_g hv) ?_
                  by_cases hb59 : v55 = v58
                  · replace h := zif_t hb59 h
                    refine zC_eq_t rfl hb59 ?_
                    refine zGo.sts 2 (cf' := (18, [some (.ref 202), some (.ref 0), some (.ref 75), some (.int (l3 + 4))], [], σ)) rfl ?_
                    exact ih h
                  · replace h := zif_f hb59 h
                    refine zC_eq_f rfl hb59 ?_
                    refine zGo.sts 1 (cf' := (429, [some (.ref 202), some (.ref 0), some (.ref 75), some (.int l3)], [.int 0], σ)) rfl ?_
                    obtain rfl := Option.some.inj h
                    exact zGo.ret rfl rfl
                · replace h := zif_f hb52 h
                  by_cases hb60 : (v1 &&& 63) = 6
                  · replace h := zif_t hb60 h
                    refine zG_sw rfl ((zsw_f hb2).trans ((zsw_f hb10).trans ((zsw_f hb22).trans ((zsw_f hb32).trans ((zsw_f hb42).trans ((zsw_f hb52).trans (zsw_t hb60))))))) ?_
                    refine zGo.sts 5 (cf' := (435, [some (.ref 202), some (.ref 0), some (.ref 75), some (.int l3)], [.int (l3 + 1), .ref 202, .ref 0], σ)) rfl ?_
                    obtain ⟨v61, hv, h⟩ := zbd h
                    refine zG_sd rfl hv ?_
                    obtain ⟨v62, σ63, hv, h⟩ := zbd2 h
                    refine zGo.call rfl rfl (X_round_g hv) ?_
                    refine zGo.sts 5 (cf' := (444, [some (.ref 202), some (.ref 0), some (.ref 75), some (.int l3)], [.int (l3 + 1), .ref 202, .ref 75, .int v62], σ63)) rfl ?_
                    obtain ⟨v64, hv, h⟩ := zbd h
                    refine zG_sd rfl hv ?_
                    obtain ⟨v65, σ66, hv, h⟩ := zbd2 h
                    refine zGo.call rfl rfl (M_round__g hv) ?_
                    by_cases hb67 : v62 = v65
                    · replace h := zif_t hb67 h
                      refine zC_eq_t rfl hb67 ?_
                      refine zGo.sts 2 (cf' := (18, [some (.ref 202), some (.ref 0), some (.ref 75), some (.int (l3 + 4))], [], σ66)) rfl ?_
                      exact ih h
                    · replace h := zif_f hb67 h
                      refine zC_eq_f rfl hb67 ?_
                      refine zGo.sts 1 (cf' := (452, [some (.ref 202), some (.ref 0), some (.ref 75), some (.int l3)], [.int 0], σ66)) rfl ?_
                      obtain rfl := Option.some.inj h
                      exact zGo.ret rfl rfl
                  · replace h := zif_f hb60 h
                    by_cases hb68 : (v1 &&& 63) = 7
                    · replace h := zif_t hb68 h
                      refine zG_sw rfl ((zsw_f hb2).trans ((zsw_f hb10).trans ((zsw_f hb22).trans ((zsw_f hb32).trans ((zsw_f hb42).trans ((zsw_f hb52).trans ((zsw_f hb60).trans (zsw_t hb68)))))))) ?_
                      refine zGo.sts 5 (cf' := (458, [some (.ref 202), some (.ref 0), some (.ref 75), some (.int l3)], [.int (l3 + 1), .ref 202, .ref 0], σ)) rfl ?_
                      obtain ⟨v69, hv, h⟩ := zbd h
                      refine zG_sd rfl hv ?_
                      obtain ⟨v70, σ71, hv, h⟩ := zbd2 h
                      refine zGo.call rfl rfl (X_closure_g hv) ?_
                      refine zGo.sts 5 (cf' := (467, [some (.ref 202), some (.ref 0), some (.ref 75), some (.int l3)], [.int (l3 + 1), .ref 202, .ref 75, .int v70], σ71)) rfl ?_
                      obtain ⟨v72, hv, h⟩ := zbd h
                      refine zG_sd rfl hv ?_
                      obtain ⟨v73, σ74, hv, h⟩ := zbd2 h
                      refine zGo.call rfl rfl (M_closure_g hv) ?_
                      by_cases hb75 : v70 = v73
                      · replace h := zif_t hb75 h
                        refine zC_eq_t rfl hb75 ?_
                        refine zGo.sts 2 (cf' := (18, [some (.ref 202), some (.ref 0), some (.ref 75), some (.int (l3 + 4))], [], σ74)) rfl ?_
                        exact ih h
                      · replace h := zif_f hb75 h
                        refine zC_eq_f rfl hb75 ?_
                        refine zGo.sts 1 (cf' := (475, [some (.ref 202), some (.ref 0), some (.ref 75), some (.int l3)], [.int 0], σ74)) rfl ?_
                        obtain rfl := Option.some.inj h
                        exact zGo.ret rfl rfl
                    · replace h := zif_f hb68 h
                      by_cases hb76 : (v1 &&& 63) = 8
                      · replace h := zif_t hb76 h
                        refine zG_sw rfl ((zsw_f hb2).trans ((zsw_f hb10).trans ((zsw_f hb22).trans ((zsw_f hb32).trans ((zsw_f hb42).trans ((zsw_f hb52).trans ((zsw_f hb60).trans ((zsw_f hb68).trans (zsw_t hb76))))))))) ?_
                        refine zGo.sts 5 (cf' := (481, [some (.ref 202), some (.ref 0), some (.ref 75), some (.int l3)], [.int (l3 + 1), .ref 202, .ref 0], σ)) rfl ?_
                        obtain ⟨v77, hv, h⟩ := zbd h
                        refine zG_sd rfl hv ?_
                        obtain ⟨v78, σ79, hv, h⟩ := zbd2 h
                        refine zGo.call rfl rfl (X_time_g hv) ?_
                        refine zGo.sts 5 (cf' := (490, [some (.ref 202), some (.ref 0), some (.ref 75), some (.int l3)], [.int (l3 + 1), .ref 202, .ref 75, .int v78], σ79)) rfl ?_
                        obtain ⟨v80, hv, h⟩ := zbd h
                        refine zG_sd rfl hv ?_
                        obtain ⟨v81, σ82, hv, h⟩ := zbd2 h
                        refine zGo.call rfl rfl (M_time_g hv) ?_
                        by_cases hb83 : v78 = v81
                        · replace h := zif_t hb83 h
                          refine zC_eq_t rfl hb83 ?_
                          refine zGo.sts 2 (cf' := (18, [some (.ref 202), some (.ref 0), some (.ref 75), some (.int (l3 + 4))], [], σ82)) rfl ?_
                          exact ih h
                        · replace h := zif_f hb83 h
                          refine zC_eq_f rfl hb83 ?_
                          refine zGo.sts 1 (cf' := (498, [some (.ref 202), some (.ref 0), some (.ref 75), some (.int l3)], [.int 0], σ82)) rfl ?_
                          obtain rfl := Option.some.inj h
                          exact zGo.ret rfl rfl
                      · replace h := zif_f hb76 h
                        by_cases hb84 : (v1 &&& 63) = 9
                        · replace h := zif_t hb84 h
                          refine zG_sw rfl ((zsw_f hb2).trans ((zsw_f hb10).trans ((zsw_f hb22).trans ((zsw_f hb32).trans ((zsw_f hb42).trans ((zsw_f hb52).trans ((zsw_f hb60).trans ((zsw_f hb68).trans ((zsw_f hb76).trans (zsw_t hb84)))))))))) ?_
                          refine zGo.sts 5 (cf' := (504, [some (.ref 202), some (.ref 0), some (.ref 75), some (.int l3)], [.int (l3 + 1), .ref 202, .ref 0], σ)) rfl ?_
                          obtain ⟨v85, hv, h⟩ := zbd h
                          refine zG_sd rfl hv ?_
                          obtain ⟨v86, σ87, hv, h⟩ := zbd2 h
                          refine zGo.call rfl rfl (X_least_g hv) ?_
                          refine zGo.sts 5 (cf' := (513, [some (.ref 202), some (.ref 0), some (.ref 75), some (.int l3)], [.int (l3 + 1), .ref 202, .ref 75, .int v86], σ87)) rfl ?_
                          obtain ⟨v88, hv, h⟩ := zbd h
                          refine zG_sd rfl hv ?_
                          obtain ⟨v89, σ90, hv, h⟩ := zbd2 h
                          refine zGo.call rfl rfl (M_least__g hv) ?_
                          by_cases hb91 : v86 = v89
                          · replace h := zif_t hb91 h
                            refine zC_eq_t rfl hb91 ?_
                            refine zGo.sts 2 (cf' := (18, [some (.ref 202), some (.ref 0), some (.ref 75), some (.int (l3 + 4))], [], σ90)) rfl ?_
                            exact ih h
                          · replace h := zif_f hb91 h
                            refine zC_eq_f rfl hb91 ?_
                            refine zGo.sts 1 (cf' := (521, [some (.ref 202), some (.ref 0), some (.ref 75), some (.int l3)], [.int 0], σ90)) rfl ?_
                            obtain rfl := Option.some.inj h
                            exact zGo.ret rfl rfl
                        · replace h := zif_f hb84 h
                          by_cases hb92 : (v1 &&& 63) = 10
                          · replace h := zif_t hb92 h
                            refine zG_sw rfl ((zsw_f hb2).trans ((zsw_f hb10).trans ((zsw_f hb22).trans ((zsw_f hb32).trans ((zsw_f hb42).trans ((zsw_f hb52).trans ((zsw_f hb60).trans ((zsw_f hb68).trans ((zsw_f hb76).trans ((zsw_f hb84).trans (zsw_t hb92))))))))))) ?_
                            refine zGo.sts 5 (cf' := (527, [some (.ref 202), some (.ref 0), some (.ref 75), some (.int l3)], [.int (l3 + 1), .ref 202, .ref 0], σ)) rfl ?_
                            obtain ⟨v93, hv, h⟩ := zbd h
                            refine zG_sd rfl hv ?_
                            obtain ⟨v94, σ95, hv, h⟩ := zbd2 h
                            refine zGo.call rfl rfl (X_cheapest_g hv) ?_
                            refine zGo.sts 5 (cf' := (536, [some (.ref 202), some (.ref 0), some (.ref 75), some (.int l3)], [.int (l3 + 1), .ref 202, .ref 75, .int v94], σ95)) rfl ?_
                            obtain ⟨v96, hv, h⟩ := zbd h
                            refine zG_sd rfl hv ?_
                            obtain ⟨v97, σ98, hv, h⟩ := zbd2 h
                            refine zGo.call rfl rfl (M_cheapest_g hv) ?_
                            by_cases hb99 : v94 = v97
                            · replace h := zif_t hb99 h
                              refine zC_eq_t rfl hb99 ?_
                              refine zGo.sts 2 (cf' := (18, [some (.ref 202), some (.ref 0), some (.ref 75), some (.int (l3 + 4))], [], σ98)) rfl ?_
                              exact ih h
                            · replace h := zif_f hb99 h
                              refine zC_eq_f rfl hb99 ?_
                              refine zGo.sts 1 (cf' := (544, [some (.ref 202), some (.ref 0), some (.ref 75), some (.int l3)], [.int 0], σ98)) rfl ?_
                              obtain rfl := Option.some.inj h
                              exact zGo.ret rfl rfl
                          · replace h := zif_f hb92 h
                            by_cases hb100 : (v1 &&& 63) = 11
                            · replace h := zif_t hb100 h
                              refine zG_sw rfl ((zsw_f hb2).trans ((zsw_f hb10).trans ((zsw_f hb22).trans ((zsw_f hb32).trans ((zsw_f hb42).trans ((zsw_f hb52).trans ((zsw_f hb60).trans ((zsw_f hb68).trans ((zsw_f hb76).trans ((zsw_f hb84).trans ((zsw_f hb92).trans (zsw_t hb100)))))))))))) ?_
                              refine zGo.sts 5 (cf' := (550, [some (.ref 202), some (.ref 0), some (.ref 75), some (.int l3)], [.int (l3 + 1), .ref 202, .ref 0], σ)) rfl ?_
                              obtain ⟨v101, hv, h⟩ := zbd h
                              refine zG_sd rfl hv ?_
                              obtain ⟨v102, σ103, hv, h⟩ := zbd2 h
                              refine zGo.call rfl rfl (X_many_g hv) ?_
                              refine zGo.sts 5 (cf' := (559, [some (.ref 202), some (.ref 0), some (.ref 75), some (.int l3)], [.int (l3 + 1), .ref 202, .ref 75, .int v102], σ103)) rfl ?_
                              obtain ⟨v104, hv, h⟩ := zbd h
                              refine zG_sd rfl hv ?_
                              obtain ⟨v105, σ106, hv, h⟩ := zbd2 h
                              refine zGo.call rfl rfl (M_many_g hv) ?_
                              by_cases hb107 : v102 = v105
                              · replace h := zif_t hb107 h
                                refine zC_eq_t rfl hb107 ?_
                                refine zGo.sts 2 (cf' := (18, [some (.ref 202), some (.ref 0), some (.ref 75), some (.int (l3 + 4))], [], σ106)) rfl ?_
                                exact ih h
                              · replace h := zif_f hb107 h
                                refine zC_eq_f rfl hb107 ?_
                                refine zGo.sts 1 (cf' := (567, [some (.ref 202), some (.ref 0), some (.ref 75), some (.int l3)], [.int 0], σ106)) rfl ?_
                                obtain rfl := Option.some.inj h
                                exact zGo.ret rfl rfl
                            · replace h := zif_f hb100 h
                              by_cases hb108 : (v1 &&& 63) = 12
                              · replace h := zif_t hb108 h
                                refine zG_sw rfl ((zsw_f hb2).trans ((zsw_f hb10).trans ((zsw_f hb22).trans ((zsw_f hb32).trans ((zsw_f hb42).trans ((zsw_f hb52).trans ((zsw_f hb60).trans ((zsw_f hb68).trans ((zsw_f hb76).trans ((zsw_f hb84).trans ((zsw_f hb92).trans ((zsw_f hb100).trans (zsw_t hb108))))))))))))) ?_
                                refine zGo.sts 5 (cf' := (573, [some (.ref 202), some (.ref 0), some (.ref 75), some (.int l3)], [.int (l3 + 1), .ref 202, .ref 0], σ)) rfl ?_
                                obtain ⟨v109, hv, h⟩ := zbd h
                                refine zG_sd rfl hv ?_
                                obtain ⟨v110, σ111, hv, h⟩ := zbd2 h
                                refine zGo.call rfl rfl (X_throttle_g hv) ?_
                                refine zGo.sts 5 (cf' := (582, [some (.ref 202), some (.ref 0), some (.ref 75), some (.int l3)], [.int (l3 + 1), .ref 202, .ref 75, .int v110], σ111)) rfl ?_
                                obtain ⟨v112, hv, h⟩ := zbd h
                                refine zG_sd rfl hv ?_
                                obtain ⟨v113, σ114, hv, h⟩ := zbd2 h
                                refine zGo.call rfl rfl (M_throttle_g hv) ?_
                                by_cases hb115 : v110 = v113
                                · replace h := zif_t hb115 h
                                  refine zC_eq_t rfl hb115 ?_
                                  refine zGo.sts 2 (cf' := (18, [some (.ref 202), some (.ref 0), some (.ref 75), some (.int (l3 + 4))], [], σ114)) rfl ?_
                                  exact ih h
                                · replace h := zif_f hb115 h
                                  refine zC_eq_f rfl hb115 ?_
                                  refine zGo.sts 1 (cf' := (590, [some (.ref 202), some (.ref 0), some (.ref 75), some (.int l3)], [.int 0], σ114)) rfl ?_
                                  obtain rfl := Option.some.inj h
                                  exact zGo.ret rfl rfl
                              · replace h := zif_f hb108 h
                                by_cases hb116 : (v1 &&& 63) = 13
                                · replace h := zif_t hb116 h
                                  refine zG_sw rfl ((zsw_f hb2).trans ((zsw_f hb10).trans ((zsw_f hb22).trans ((zsw_f hb32).trans ((zsw_f hb42).trans ((zsw_f hb52).trans ((zsw_f hb60).trans ((zsw_f hb68).trans ((zsw_f hb76).trans ((zsw_f hb84).trans ((zsw_f hb92).trans ((zsw_f hb100).trans ((zsw_f hb108).trans (zsw_t hb116)))))))))))))) ?_
                                  refine zGo.sts 5 (cf' := (596, [some (.ref 202), some (.ref 0), some (.ref 75), some (.int l3)], [.int (l3 + 1), .ref 202, .ref 0], σ)) rfl ?_
                                  obtain ⟨v117, hv, h⟩ := zbd h
                                  refine zG_sd rfl hv ?_
                                  obtain ⟨v118, σ119, hv, h⟩ := zbd2 h
                                  refine zGo.call rfl rfl (X_spread_g hv) ?_
                                  refine zGo.sts 5 (cf' := (605, [some (.ref 202), some (.ref 0), some (.ref 75), some (.int l3)], [.int (l3 + 1), .ref 202, .ref 75, .int v118], σ119)) rfl ?_
                                  obtain ⟨v120, hv, h⟩ := zbd h
                                  refine zG_sd rfl hv ?_
                                  obtain ⟨v121, σ122, hv, h⟩ := zbd2 h
                                  refine zGo.call rfl rfl (M_spread_g hv) ?_
                                  by_cases hb123 : v118 = v121
                                  · replace h := zif_t hb123 h
                                    refine zC_eq_t rfl hb123 ?_
                                    refine zGo.sts 2 (cf' := (18, [some (.ref 202), some (.ref 0), some (.ref 75), some (.int (l3 + 4))], [], σ122)) rfl ?_
                                    exact ih h
                                  · replace h := zif_f hb123 h
                                    refine zC_eq_f rfl hb123 ?_
                                    refine zGo.sts 1 (cf' := (613, [some (.ref 202), some (.ref 0), some (.ref 75), some (.int l3)], [.int 0], σ122)) rfl ?_
                                    obtain rfl := Option.some.inj h
                                    exact zGo.ret rfl rfl
                                · replace h := zif_f hb116 h
                                  by_cases hb124 : (v1 &&& 63) = 14
                                  · replace h := zif_t hb124 h
                                    refine zG_sw rfl ((zsw_f hb2).trans ((zsw_f hb10).trans ((zsw_f hb22).trans ((zsw_f hb32).trans ((zsw_f hb42).trans ((zsw_f hb52).trans ((zsw_f hb60).trans ((zsw_f hb68).trans ((zsw_f hb76).trans ((zsw_f hb84).trans ((zsw_f hb92).trans ((zsw_f hb100).trans ((zsw_f hb108).trans ((zsw_f hb116).trans (zsw_t hb124))))))))))))))) ?_
                                    refine zGo.sts 5 (cf' := (619, [some (.ref 202), some (.ref 0), some (.ref 75), some (.int l3)], [.int (l3 + 1), .ref 202, .ref 0], σ)) rfl ?_
                                    obtain ⟨v125, hv, h⟩ := zbd h
                                    refine zG_sd rfl hv ?_
                                    refine zGo.sts 4 (cf' := (624, [some (.ref 202), some (.ref 0), some (.ref 75), some (.int l3)], [.int (l3 + 2), .ref 202, .int v125, .ref 0], σ)) rfl ?_
                                    obtain ⟨v126, hv, h⟩ := zbd h
                                    refine zG_sd rfl hv ?_
                                    obtain ⟨v127, σ128, hv, h⟩ := zbd2 h
                                    refine zGo.call rfl rfl (X_lineSpread_g hv) ?_
                                    refine zGo.sts 5 (cf' := (633, [some (.ref 202), some (.ref 0), some (.ref 75), some (.int l3)], [.int (l3 + 1), .ref 202, .ref 75, .int v127], σ128)) rfl ?_
                                    obtain ⟨v129, hv, h⟩ := zbd h
                                    refine zG_sd rfl hv ?_
                                    refine zGo.sts 4 (cf' := (638, [some (.ref 202), some (.ref 0), some (.ref 75), some (.int l3)], [.int (l3 + 2), .ref 202, .int v129, .ref 75, .int v127], σ128)) rfl ?_
                                    obtain ⟨v130, hv, h⟩ := zbd h
                                    refine zG_sd rfl hv ?_
                                    obtain ⟨v131, σ132, hv, h⟩ := zbd2 h
                                    refine zGo.call rfl rfl (M_lineSpread_g hv) ?_
                                    by_cases hb133 : v127 = v131
                                    · replace h := zif_t hb133 h
                                      refine zC_eq_t rfl hb133 ?_
                                      refine zGo.sts 2 (cf' := (18, [some (.ref 202), some (.ref 0), some (.ref 75), some (.int (l3 + 4))], [], σ132)) rfl ?_
                                      exact ih h
                                    · replace h := zif_f hb133 h
                                      refine zC_eq_f rfl hb133 ?_
                                      refine zGo.sts 1 (cf' := (646, [some (.ref 202), some (.ref 0), some (.ref 75), some (.int l3)], [.int 0], σ132)) rfl ?_
                                      obtain rfl := Option.some.inj h
                                      exact zGo.ret rfl rfl
                                  · replace h := zif_f hb124 h
                                    by_cases hb134 : (v1 &&& 63) = 15
                                    · replace h := zif_t hb134 h
                                      refine zG_sw rfl ((zsw_f hb2).trans ((zsw_f hb10).trans ((zsw_f hb22).trans ((zsw_f hb32).trans ((zsw_f hb42).trans ((zsw_f hb52).trans ((zsw_f hb60).trans ((zsw_f hb68).trans ((zsw_f hb76).trans ((zsw_f hb84).trans ((zsw_f hb92).trans ((zsw_f hb100).trans ((zsw_f hb108).trans ((zsw_f hb116).trans ((zsw_f hb124).trans (zsw_t hb134)))))))))))))))) ?_
                                      refine zGo.sts 5 (cf' := (652, [some (.ref 202), some (.ref 0), some (.ref 75), some (.int l3)], [.int (l3 + 1), .ref 202, .ref 0], σ)) rfl ?_
                                      obtain ⟨v135, hv, h⟩ := zbd h
                                      refine zG_sd rfl hv ?_
                                      obtain ⟨v136, σ137, hv, h⟩ := zbd2 h
                                      refine zGo.call rfl rfl (X_best_g hv) ?_
                                      refine zGo.sts 5 (cf' := (661, [some (.ref 202), some (.ref 0), some (.ref 75), some (.int l3)], [.int (l3 + 1), .ref 202, .ref 75, .int v136], σ137)) rfl ?_
                                      obtain ⟨v138, hv, h⟩ := zbd h
                                      refine zG_sd rfl hv ?_
                                      obtain ⟨v139, σ140, hv, h⟩ := zbd2 h
                                      refine zGo.call rfl rfl (M_best_g hv) ?_
                                      by_cases hb141 : v136 = v139
                                      · replace h := zif_t hb141 h
                                        refine zC_eq_t rfl hb141 ?_
                                        refine zGo.sts 2 (cf' := (18, [some (.ref 202), some (.ref 0), some (.ref 75), some (.int (l3 + 4))], [], σ140)) rfl ?_
                                        exact ih h
                                      · replace h := zif_f hb141 h
                                        refine zC_eq_f rfl hb141 ?_
                                        refine zGo.sts 1 (cf' := (669, [some (.ref 202), some (.ref 0), some (.ref 75), some (.int l3)], [.int 0], σ140)) rfl ?_
                                        obtain rfl := Option.some.inj h
                                        exact zGo.ret rfl rfl
                                    · replace h := zif_f hb134 h
                                      by_cases hb142 : (v1 &&& 63) = 16
                                      · replace h := zif_t hb142 h
                                        refine zG_sw rfl ((zsw_f hb2).trans ((zsw_f hb10).trans ((zsw_f hb22).trans ((zsw_f hb32).trans ((zsw_f hb42).trans ((zsw_f hb52).trans ((zsw_f hb60).trans ((zsw_f hb68).trans ((zsw_f hb76).trans ((zsw_f hb84).trans ((zsw_f hb92).trans ((zsw_f hb100).trans ((zsw_f hb108).trans ((zsw_f hb116).trans ((zsw_f hb124).trans ((zsw_f hb134).trans (zsw_t hb142))))))))))))))))) ?_
                                        refine zGo.sts 5 (cf' := (675, [some (.ref 202), some (.ref 0), some (.ref 75), some (.int l3)], [.int (l3 + 1), .ref 202, .ref 0], σ)) rfl ?_
                                        obtain ⟨v143, hv, h⟩ := zbd h
                                        refine zG_sd rfl hv ?_
                                        refine zGo.sts 4 (cf' := (680, [some (.ref 202), some (.ref 0), some (.ref 75), some (.int l3)], [.int (l3 + 2), .ref 202, .int v143, .ref 0], σ)) rfl ?_
                                        obtain ⟨v144, hv, h⟩ := zbd h
                                        refine zG_sd rfl hv ?_
                                        refine zGo.sts 4 (cf' := (685, [some (.ref 202), some (.ref 0), some (.ref 75), some (.int l3)], [.int (l3 + 3), .ref 202, .int v144, .int v143, .ref 0], σ)) rfl ?_
                                        obtain ⟨v145, hv, h⟩ := zbd h
                                        refine zG_sd rfl hv ?_
                                        obtain ⟨v146, σ147, hv, h⟩ := zbd2 h
                                        refine zGo.call rfl rfl (X_chain_g hv) ?_
                                        refine zGo.sts 5 (cf' := (694, [some (.ref 202), some (.ref 0), some (.ref 75), some (.int l3)], [.int (l3 + 1), .ref 202, .ref 75, .int v146], σ147)) rfl ?_
                                        obtain ⟨v148, hv, h⟩ := zbd h
                                        refine zG_sd rfl hv ?_
                                        refine zGo.sts 4 (cf' := (699, [some (.ref 202), some (.ref 0), some (.ref 75), some (.int l3)], [.int (l3 + 2), .ref 202, .int v148, .ref 75, .int v146], σ147)) rfl ?_
                                        obtain ⟨v149, hv, h⟩ := zbd h
                                        refine zG_sd rfl hv ?_
                                        refine zGo.sts 4 (cf' := (704, [some (.ref 202), some (.ref 0), some (.ref 75), some (.int l3)], [.int (l3 + 3), .ref 202, .int v149, .int v148, .ref 75, .int v146], σ147)) rfl ?_
                                        obtain ⟨v150, hv, h⟩ := zbd h
                                        refine zG_sd rfl hv ?_
                                        obtain ⟨v151, σ152, hv, h⟩ := zbd2 h
                                        refine zGo.call rfl rfl (M_chain_g hv) ?_
                                        by_cases hb153 : v146 = v151
                                        · replace h := zif_t hb153 h
                                          refine zC_eq_t rfl hb153 ?_
                                          refine zGo.sts 2 (cf' := (18, [some (.ref 202), some (.ref 0), some (.ref 75), some (.int (l3 + 4))], [], σ152)) rfl ?_
                                          exact ih h
                                        · replace h := zif_f hb153 h
                                          refine zC_eq_f rfl hb153 ?_
                                          refine zGo.sts 1 (cf' := (712, [some (.ref 202), some (.ref 0), some (.ref 75), some (.int l3)], [.int 0], σ152)) rfl ?_
                                          obtain rfl := Option.some.inj h
                                          exact zGo.ret rfl rfl
                                      · replace h := zif_f hb142 h
                                        by_cases hb154 : (v1 &&& 63) = 17
                                        · replace h := zif_t hb154 h
                                          refine zG_sw rfl ((zsw_f hb2).trans ((zsw_f hb10).trans ((zsw_f hb22).trans ((zsw_f hb32).trans ((zsw_f hb42).trans ((zsw_f hb52).trans ((zsw_f hb60).trans ((zsw_f hb68).trans ((zsw_f hb76).trans ((zsw_f hb84).trans ((zsw_f hb92).trans ((zsw_f hb100).trans ((zsw_f hb108).trans ((zsw_f hb116).trans ((zsw_f hb124).trans ((zsw_f hb134).trans ((zsw_f hb142).trans (zsw_t hb154)))))))))))))))))) ?_
                                          refine zGo.sts 5 (cf' := (718, [some (.ref 202), some (.ref 0), some (.ref 75), some (.int l3)], [.int (l3 + 1), .ref 202, .ref 0], σ)) rfl ?_
                                          obtain ⟨v155, hv, h⟩ := zbd h
                                          refine zG_sd rfl hv ?_
                                          obtain ⟨v156, σ157, hv, h⟩ := zbd2 h
                                          refine zGo.call rfl rfl (X_ends_g hv) ?_
                                          refine zGo.sts 5 (cf' := (727, [some (.ref 202), some (.ref 0), some (.ref 75), some (.int l3)], [.int (l3 + 1), .ref 202, .ref 75, .int v156], σ157)) rfl ?_
                                          obtain ⟨v158, hv, h⟩ := zbd h
                                          refine zG_sd rfl hv ?_
                                          obtain ⟨v159, σ160, hv, h⟩ := zbd2 h
                                          refine zGo.call rfl rfl (M_ends_g hv) ?_
                                          by_cases hb161 : v156 = v159
                                          · replace h := zif_t hb161 h
                                            refine zC_eq_t rfl hb161 ?_
                                            refine zGo.sts 2 (cf' := (18, [some (.ref 202), some (.ref 0), some (.ref 75), some (.int (l3 + 4))], [], σ160)) rfl ?_
                                            exact ih h
                                          · replace h := zif_f hb161 h
                                            refine zC_eq_f rfl hb161 ?_
                                            refine zGo.sts 1 (cf' := (735, [some (.ref 202), some (.ref 0), some (.ref 75), some (.int l3)], [.int 0], σ160)) rfl ?_
                                            obtain rfl := Option.some.inj h
                                            exact zGo.ret rfl rfl
                                        · replace h := zif_f hb154 h
                                          by_cases hb162 : (v1 &&& 63) = 18
                                          · replace h := zif_t hb162 h
                                            refine zG_sw rfl ((zsw_f hb2).trans ((zsw_f hb10).trans ((zsw_f hb22).trans ((zsw_f hb32).trans ((zsw_f hb42).trans ((zsw_f hb52).trans ((zsw_f hb60).trans ((zsw_f hb68).trans ((zsw_f hb76).trans ((zsw_f hb84).trans ((zsw_f hb92).trans ((zsw_f hb100).trans ((zsw_f hb108).trans ((zsw_f hb116).trans ((zsw_f hb124).trans ((zsw_f hb134).trans ((zsw_f hb142).trans ((zsw_f hb154).trans (zsw_t hb162))))))))))))))))))) ?_
                                            refine zGo.sts 5 (cf' := (741, [some (.ref 202), some (.ref 0), some (.ref 75), some (.int l3)], [.int (l3 + 1), .ref 202, .ref 0], σ)) rfl ?_
                                            obtain ⟨v163, hv, h⟩ := zbd h
                                            refine zG_sd rfl hv ?_
                                            obtain ⟨v164, σ165, hv, h⟩ := zbd2 h
                                            refine zGo.call rfl rfl (X_fort_g hv) ?_
                                            refine zGo.sts 5 (cf' := (750, [some (.ref 202), some (.ref 0), some (.ref 75), some (.int l3)], [.int (l3 + 1), .ref 202, .ref 75, .int v164], σ165)) rfl ?_
                                            obtain ⟨v166, hv, h⟩ := zbd h
                                            refine zG_sd rfl hv ?_
                                            obtain ⟨v167, σ168, hv, h⟩ := zbd2 h
                                            refine zGo.call rfl rfl (M_fort_g hv) ?_
                                            by_cases hb169 : v164 = v167
                                            · replace h := zif_t hb169 h
                                              refine zC_eq_t rfl hb169 ?_
                                              refine zGo.sts 2 (cf' := (18, [some (.ref 202), some (.ref 0), some (.ref 75), some (.int (l3 + 4))], [], σ168)) rfl ?_
                                              exact ih h
                                            · replace h := zif_f hb169 h
                                              refine zC_eq_f rfl hb169 ?_
                                              refine zGo.sts 1 (cf' := (758, [some (.ref 202), some (.ref 0), some (.ref 75), some (.int l3)], [.int 0], σ168)) rfl ?_
                                              obtain rfl := Option.some.inj h
                                              exact zGo.ret rfl rfl
                                          · replace h := zif_f hb162 h
                                            by_cases hb170 : (v1 &&& 63) = 19
                                            · replace h := zif_t hb170 h
                                              refine zG_sw rfl ((zsw_f hb2).trans ((zsw_f hb10).trans ((zsw_f hb22).trans ((zsw_f hb32).trans ((zsw_f hb42).trans ((zsw_f hb52).trans ((zsw_f hb60).trans ((zsw_f hb68).trans ((zsw_f hb76).trans ((zsw_f hb84).trans ((zsw_f hb92).trans ((zsw_f hb100).trans ((zsw_f hb108).trans ((zsw_f hb116).trans ((zsw_f hb124).trans ((zsw_f hb134).trans ((zsw_f hb142).trans ((zsw_f hb154).trans ((zsw_f hb162).trans (zsw_t hb170)))))))))))))))))))) ?_
                                              refine zGo.sts 5 (cf' := (764, [some (.ref 202), some (.ref 0), some (.ref 75), some (.int l3)], [.int (l3 + 1), .ref 202, .ref 0], σ)) rfl ?_
                                              obtain ⟨v171, hv, h⟩ := zbd h
                                              refine zG_sd rfl hv ?_
                                              refine zGo.sts 4 (cf' := (769, [some (.ref 202), some (.ref 0), some (.ref 75), some (.int l3)], [.int (l3 + 2), .ref 202, .int v171, .ref 0], σ)) rfl ?_
                                              obtain ⟨v172, hv, h⟩ := zbd h
                                              refine zG_sd rfl hv ?_
                                              obtain ⟨v173, σ174, hv, h⟩ := zbd2 h
                                              refine zGo.call rfl rfl (X_forts_g hv) ?_
                                              refine zGo.sts 5 (cf' := (778, [some (.ref 202), some (.ref 0), some (.ref 75), some (.int l3)], [.int (l3 + 1), .ref 202, .ref 75, .int v173], σ174)) rfl ?_
                                              obtain ⟨v175, hv, h⟩ := zbd h
                                              refine zG_sd rfl hv ?_
                                              refine zGo.sts 4 (cf' := (783, [some (.ref 202), some (.ref 0), some (.ref 75), some (.int l3)], [.int (l3 + 2), .ref 202, .int v175, .ref 75, .int v173], σ174)) rfl ?_
                                              obtain ⟨v176, hv, h⟩ := zbd h
                                              refine zG_sd rfl hv ?_
                                              obtain ⟨v177, σ178, hv, h⟩ := zbd2 h
                                              refine zGo.call rfl rfl (M_forts__g hv) ?_
                                              by_cases hb179 : v173 = v177
                                              · replace h := zif_t hb179 h
                                                refine zC_eq_t rfl hb179 ?_
                                                refine zGo.sts 2 (cf' := (18, [some (.ref 202), some (.ref 0), some (.ref 75), some (.int (l3 + 4))], [], σ178)) rfl ?_
                                                exact ih h
                                              · replace h := zif_f hb179 h
                                                refine zC_eq_f rfl hb179 ?_
                                                refine zGo.sts 1 (cf' := (791, [some (.ref 202), some (.ref 0), some (.ref 75), some (.int l3)], [.int 0], σ178)) rfl ?_
                                                obtain rfl := Option.some.inj h
                                                exact zGo.ret rfl rfl
                                            · replace h := zif_f hb170 h
                                              by_cases hb180 : (v1 &&& 63) = 20
                                              · replace h := zif_t hb180 h
                                                refine zG_sw rfl ((zsw_f hb2).trans ((zsw_f hb10).trans ((zsw_f hb22).trans ((zsw_f hb32).trans ((zsw_f hb42).trans ((zsw_f hb52).trans ((zsw_f hb60).trans ((zsw_f hb68).trans ((zsw_f hb76).trans ((zsw_f hb84).trans ((zsw_f hb92).trans ((zsw_f hb100).trans ((zsw_f hb108).trans ((zsw_f hb116).trans ((zsw_f hb124).trans ((zsw_f hb134).trans ((zsw_f hb142).trans ((zsw_f hb154).trans ((zsw_f hb162).trans ((zsw_f hb170).trans (zsw_t hb180))))))))))))))))))))) ?_
                                                refine zGo.sts 5 (cf' := (797, [some (.ref 202), some (.ref 0), some (.ref 75), some (.int l3)], [.int (l3 + 1), .ref 202, .ref 0], σ)) rfl ?_
                                                obtain ⟨v181, hv, h⟩ := zbd h
                                                refine zG_sd rfl hv ?_
                                                obtain ⟨v182, σ183, hv, h⟩ := zbd2 h
                                                refine zGo.call rfl rfl (X_innerFort_g hv) ?_
                                                refine zGo.sts 5 (cf' := (806, [some (.ref 202), some (.ref 0), some (.ref 75), some (.int l3)], [.int (l3 + 1), .ref 202, .ref 75, .int v182], σ183)) rfl ?_
                                                obtain ⟨v184, hv, h⟩ := zbd h
                                                refine zG_sd rfl hv ?_
                                                obtain ⟨v185, σ186, hv, h⟩ := zbd2 h
                                                refine zGo.call rfl rfl (M_innerFort_g hv) ?_
                                                by_cases hb187 : v182 = v185
                                                · replace h := zif_t hb187 h
                                                  refine zC_eq_t rfl hb187 ?_
                                                  refine zGo.sts 2 (cf' := (18, [some (.ref 202), some (.ref 0), some (.ref 75), some (.int (l3 + 4))], [], σ186)) rfl ?_
                                                  exact ih h
                                                · replace h := zif_f hb187 h
                                                  refine zC_eq_f rfl hb187 ?_
                                                  refine zGo.sts 1 (cf' := (814, [some (.ref 202), some (.ref 0), some (.ref 75), some (.int l3)], [.int 0], σ186)) rfl ?_
                                                  obtain rfl := Option.some.inj h
                                                  exact zGo.ret rfl rfl
                                              · replace h := zif_f hb180 h
                                                by_cases hb188 : (v1 &&& 63) = 21
                                                · replace h := zif_t hb188 h
                                                  refine zG_sw rfl ((zsw_f hb2).trans ((zsw_f hb10).trans ((zsw_f hb22).trans ((zsw_f hb32).trans ((zsw_f hb42).trans ((zsw_f hb52).trans ((zsw_f hb60).trans ((zsw_f hb68).trans ((zsw_f hb76).trans ((zsw_f hb84).trans ((zsw_f hb92).trans ((zsw_f hb100).trans ((zsw_f hb108).trans ((zsw_f hb116).trans ((zsw_f hb124).trans ((zsw_f hb134).trans ((zsw_f hb142).trans ((zsw_f hb154).trans ((zsw_f hb162).trans ((zsw_f hb170).trans ((zsw_f hb180).trans (zsw_t hb188)))))))))))))))))))))) ?_
                                                  refine zGo.sts 5 (cf' := (820, [some (.ref 202), some (.ref 0), some (.ref 75), some (.int l3)], [.int (l3 + 1), .ref 202, .ref 0], σ)) rfl ?_
                                                  obtain ⟨v189, hv, h⟩ := zbd h
                                                  refine zG_sd rfl hv ?_
                                                  obtain ⟨v190, σ191, hv, h⟩ := zbd2 h
                                                  refine zGo.call rfl rfl (X_meets_g hv) ?_
                                                  refine zGo.sts 5 (cf' := (829, [some (.ref 202), some (.ref 0), some (.ref 75), some (.int l3)], [.int (l3 + 1), .ref 202, .ref 75, .int v190], σ191)) rfl ?_
                                                  obtain ⟨v192, hv, h⟩ := zbd h
                                                  refine zG_sd rfl hv ?_
                                                  obtain ⟨v193, σ194, hv, h⟩ := zbd2 h
                                                  refine zGo.call rfl rfl (M_meets_g hv) ?_
                                                  by_cases hb195 : v190 = v193
                                                  · replace h := zif_t hb195 h
                                                    refine zC_eq_t rfl hb195 ?_
                                                    refine zGo.sts 2 (cf' := (18, [some (.ref 202), some (.ref 0), some (.ref 75), some (.int (l3 + 4))], [], σ194)) rfl ?_
                                                    exact ih h
                                                  · replace h := zif_f hb195 h
                                                    refine zC_eq_f rfl hb195 ?_
                                                    refine zGo.sts 1 (cf' := (837, [some (.ref 202), some (.ref 0), some (.ref 75), some (.int l3)], [.int 0], σ194)) rfl ?_
                                                    obtain rfl := Option.some.inj h
                                                    exact zGo.ret rfl rfl
                                                · replace h := zif_f hb188 h
                                                  by_cases hb196 : (v1 &&& 63) = 22
                                                  · replace h := zif_t hb196 h
                                                    refine zG_sw rfl ((zsw_f hb2).trans ((zsw_f hb10).trans ((zsw_f hb22).trans ((zsw_f hb32).trans ((zsw_f hb42).trans ((zsw_f hb52).trans ((zsw_f hb60).trans ((zsw_f hb68).trans ((zsw_f hb76).trans ((zsw_f hb84).trans ((zsw_f hb92).trans ((zsw_f hb100).trans ((zsw_f hb108).trans ((zsw_f hb116).trans ((zsw_f hb124).trans ((zsw_f hb134).trans ((zsw_f hb142).trans ((zsw_f hb154).trans ((zsw_f hb162).trans ((zsw_f hb170).trans ((zsw_f hb180).trans ((zsw_f hb188).trans (zsw_t hb196))))))))))))))))))))))) ?_
                                                    refine zGo.sts 5 (cf' := (843, [some (.ref 202), some (.ref 0), some (.ref 75), some (.int l3)], [.int (l3 + 1), .ref 202, .ref 0], σ)) rfl ?_
                                                    obtain ⟨v197, hv, h⟩ := zbd h
                                                    refine zG_sd rfl hv ?_
                                                    refine zGo.sts 4 (cf' := (848, [some (.ref 202), some (.ref 0), some (.ref 75), some (.int l3)], [.int (l3 + 2), .ref 202, .int v197, .ref 0], σ)) rfl ?_
                                                    obtain ⟨v198, hv, h⟩ := zbd h
                                                    refine zG_sd rfl hv ?_
                                                    refine zGo.sts 4 (cf' := (853, [some (.ref 202), some (.ref 0), some (.ref 75), some (.int l3)], [.int (l3 + 3), .ref 202, .int v198, .int v197, .ref 0], σ)) rfl ?_
                                                    obtain ⟨v199, hv, h⟩ := zbd h
                                                    refine zG_sd rfl hv ?_
                                                    obtain ⟨v200, σ201, hv, h⟩ := zbd2 h
                                                    refine zGo.call rfl rfl (X_table_g hv) ?_
                                                    refine zGo.sts 5 (cf' := (862, [some (.ref 202), some (.ref 0), some (.ref 75), some (.int l3)], [.int (l3 + 1), .ref 202, .ref 75, .int v200], σ201)) rfl ?_
                                                    obtain ⟨v202, hv, h⟩ := zbd h
                                                    refine zG_sd rfl hv ?_
                                                    refine zGo.sts 4 (cf' := (867, [some (.ref 202), some (.ref 0), some (.ref 75), some (.int l3)], [.int (l3 + 2), .ref 202, .int v202, .ref 75, .int v200], σ201)) rfl ?_
                                                    obtain ⟨v203, hv, h⟩ := zbd h
                                                    refine zG_sd rfl hv ?_
                                                    refine zGo.sts 4 (cf' := (872, [some (.ref 202), some (.ref 0), some (.ref 75), some (.int l3)], [.int (l3 + 3), .ref 202, .int v203, .int v202, .ref 75, .int v200], σ201)) rfl ?_
                                                    obtain ⟨v204, hv, h⟩ := zbd h
                                                    refine zG_sd rfl hv ?_
                                                    obtain ⟨v205, σ206, hv, h⟩ := zbd2 h
                                                    refine zGo.call rfl rfl (M_table_g hv) ?_
                                                    by_cases hb207 : v200 = v205
                                                    · replace h := zif_t hb207 h
                                                      refine zC_eq_t rfl hb207 ?_
                                                      refine zGo.sts 2 (cf' := (18, [some (.ref 202), some (.ref 0), some (.ref 75), some (.int (l3 + 4))], [], σ206)) rfl ?_
                                                      exact ih h
                                                    · replace h := zif_f hb207 h
                                                      refine zC_eq_f rfl hb207 ?_
                                                      refine zGo.sts 1 (cf' := (880, [some (.ref 202), some (.ref 0), some (.ref 75), some (.int l3)], [.int 0], σ206)) rfl ?_
                                                      obtain rfl := Option.some.inj h
                                                      exact zGo.ret rfl rfl
                                                  · replace h := zif_f hb196 h
                                                    by_cases hb208 : (v1 &&& 63) = 23
                                                    · replace h := zif_t hb208 h
                                                      refine zG_sw rfl ((zsw_f hb2).trans ((zsw_f hb10).trans ((zsw_f hb22).trans ((zsw_f hb32).trans ((zsw_f hb42).trans ((zsw_f hb52).trans ((zsw_f hb60).trans ((zsw_f hb68).trans ((zsw_f hb76).trans ((zsw_f hb84).trans ((zsw_f hb92).trans ((zsw_f hb100).trans ((zsw_f hb108).trans ((zsw_f hb116).trans ((zsw_f hb124).trans ((zsw_f hb134).trans ((zsw_f hb142).trans ((zsw_f hb154).trans ((zsw_f hb162).trans ((zsw_f hb170).trans ((zsw_f hb180).trans ((zsw_f hb188).trans ((zsw_f hb196).trans (zsw_t hb208)))))))))))))))))))))))) ?_
                                                      refine zGo.sts 5 (cf' := (886, [some (.ref 202), some (.ref 0), some (.ref 75), some (.int l3)], [.int (l3 + 1), .ref 202, .ref 0], σ)) rfl ?_
                                                      obtain ⟨v209, hv, h⟩ := zbd h
                                                      refine zG_sd rfl hv ?_
                                                      refine zGo.sts 4 (cf' := (891, [some (.ref 202), some (.ref 0), some (.ref 75), some (.int l3)], [.int (l3 + 2), .ref 202, .int v209, .ref 0], σ)) rfl ?_
                                                      obtain ⟨v210, hv, h⟩ := zbd h
                                                      refine zG_sd rfl hv ?_
                                                      obtain ⟨v211, hv, h⟩ := zbd h
                                                      refine zGo.call rfl rfl (X_entry_g hv) ?_
                                                      refine zGo.sts 5 (cf' := (900, [some (.ref 202), some (.ref 0), some (.ref 75), some (.int l3)], [.int (l3 + 1), .ref 202, .ref 75, .int v211], σ)) rfl ?_
                                                      obtain ⟨v212, hv, h⟩ := zbd h
                                                      refine zG_sd rfl hv ?_
                                                      refine zGo.sts 4 (cf' := (905, [some (.ref 202), some (.ref 0), some (.ref 75), some (.int l3)], [.int (l3 + 2), .ref 202, .int v212, .ref 75, .int v211], σ)) rfl ?_
                                                      obtain ⟨v213, hv, h⟩ := zbd h
                                                      refine zG_sd rfl hv ?_
                                                      obtain ⟨v214, hv, h⟩ := zbd h
                                                      refine zGo.call rfl rfl (M_entry_g hv) ?_
                                                      by_cases hb215 : v211 = v214
                                                      · replace h := zif_t hb215 h
                                                        refine zC_eq_t rfl hb215 ?_
                                                        refine zGo.sts 2 (cf' := (18, [some (.ref 202), some (.ref 0), some (.ref 75), some (.int (l3 + 4))], [], σ)) rfl ?_
                                                        exact ih h
                                                      · replace h := zif_f hb215 h
                                                        refine zC_eq_f rfl hb215 ?_
                                                        refine zGo.sts 1 (cf' := (913, [some (.ref 202), some (.ref 0), some (.ref 75), some (.int l3)], [.int 0], σ)) rfl ?_
                                                        obtain rfl := Option.some.inj h
                                                        exact zGo.ret rfl rfl
                                                    · replace h := zif_f hb208 h
                                                      by_cases hb216 : (v1 &&& 63) = 24
                                                      · replace h := zif_t hb216 h
                                                        refine zG_sw rfl ((zsw_f hb2).trans ((zsw_f hb10).trans ((zsw_f hb22).trans ((zsw_f hb32).trans ((zsw_f hb42).trans ((zsw_f hb52).trans ((zsw_f hb60).trans ((zsw_f hb68).trans ((zsw_f hb76).trans ((zsw_f hb84).trans ((zsw_f hb92).trans ((zsw_f hb100).trans ((zsw_f hb108).trans ((zsw_f hb116).trans ((zsw_f hb124).trans ((zsw_f hb134).trans ((zsw_f hb142).trans ((zsw_f hb154).trans ((zsw_f hb162).trans ((zsw_f hb170).trans ((zsw_f hb180).trans ((zsw_f hb188).trans ((zsw_f hb196).trans ((zsw_f hb208).trans (zsw_t hb216))))))))))))))))))))))))) ?_
                                                        refine zGo.sts 5 (cf' := (919, [some (.ref 202), some (.ref 0), some (.ref 75), some (.int l3)], [.int (l3 + 1), .ref 202, .ref 0], σ)) rfl ?_
                                                        obtain ⟨v217, hv, h⟩ := zbd h
                                                        refine zG_sd rfl hv ?_
                                                        obtain ⟨v218, σ219, hv, h⟩ := zbd2 h
                                                        refine zGo.call rfl rfl (X_prime_g hv) ?_
                                                        refine zGo.sts 5 (cf' := (928, [some (.ref 202), some (.ref 0), some (.ref 75), some (.int l3)], [.int (l3 + 1), .ref 202, .ref 75, .int v218], σ219)) rfl ?_
                                                        obtain ⟨v220, hv, h⟩ := zbd h
                                                        refine zG_sd rfl hv ?_
                                                        obtain ⟨v221, σ222, hv, h⟩ := zbd2 h
                                                        refine zGo.call rfl rfl (M_prime_g hv) ?_
                                                        by_cases hb223 : v218 = v221
                                                        · replace h := zif_t hb223 h
                                                          refine zC_eq_t rfl hb223 ?_
                                                          refine zGo.sts 2 (cf' := (18, [some (.ref 202), some (.ref 0), some (.ref 75), some (.int (l3 + 4))], [], σ222)) rfl ?_
                                                          exact ih h
                                                        · replace h := zif_f hb223 h
                                                          refine zC_eq_f rfl hb223 ?_
                                                          refine zGo.sts 1 (cf' := (936, [some (.ref 202), some (.ref 0), some (.ref 75), some (.int l3)], [.int 0], σ222)) rfl ?_
                                                          obtain rfl := Option.some.inj h
                                                          exact zGo.ret rfl rfl
                                                      · replace h := zif_f hb216 h
                                                        by_cases hb224 : (v1 &&& 63) = 25
                                                        · replace h := zif_t hb224 h
                                                          refine zG_sw rfl ((zsw_f hb2).trans ((zsw_f hb10).trans ((zsw_f hb22).trans ((zsw_f hb32).trans ((zsw_f hb42).trans ((zsw_f hb52).trans ((zsw_f hb60).trans ((zsw_f hb68).trans ((zsw_f hb76).trans ((zsw_f hb84).trans ((zsw_f hb92).trans ((zsw_f hb100).trans ((zsw_f hb108).trans ((zsw_f hb116).trans ((zsw_f hb124).trans ((zsw_f hb134).trans ((zsw_f hb142).trans ((zsw_f hb154).trans ((zsw_f hb162).trans ((zsw_f hb170).trans ((zsw_f hb180).trans ((zsw_f hb188).trans ((zsw_f hb196).trans ((zsw_f hb208).trans ((zsw_f hb216).trans (zsw_t hb224)))))))))))))))))))))))))) ?_
                                                          refine zGo.sts 5 (cf' := (942, [some (.ref 202), some (.ref 0), some (.ref 75), some (.int l3)], [.int (l3 + 1), .ref 202, .ref 0], σ)) rfl ?_
                                                          obtain ⟨v225, hv, h⟩ := zbd h
                                                          refine zG_sd rfl hv ?_
                                                          obtain ⟨v226, σ227, hv, h⟩ := zbd2 h
                                                          refine zGo.call rfl rfl (X_rank_g hv) ?_
                                                          refine zGo.sts 5 (cf' := (951, [some (.ref 202), some (.ref 0), some (.ref 75), some (.int l3)], [.int (l3 + 1), .ref 202, .ref 75, .int v226], σ227)) rfl ?_
                                                          obtain ⟨v228, hv, h⟩ := zbd h
                                                          refine zG_sd rfl hv ?_
                                                          obtain ⟨v229, σ230, hv, h⟩ := zbd2 h
                                                          refine zGo.call rfl rfl (M_rank_g hv) ?_
                                                          by_cases hb231 : v226 = v229
                                                          · replace h := zif_t hb231 h
                                                            refine zC_eq_t rfl hb231 ?_
                                                            refine zGo.sts 2 (cf' := (18, [some (.ref 202), some (.ref 0), some (.ref 75), some (.int (l3 + 4))], [], σ230)) rfl ?_
                                                            exact ih h
                                                          · replace h := zif_f hb231 h
                                                            refine zC_eq_f rfl hb231 ?_
                                                            refine zGo.sts 1 (cf' := (959, [some (.ref 202), some (.ref 0), some (.ref 75), some (.int l3)], [.int 0], σ230)) rfl ?_
                                                            obtain rfl := Option.some.inj h
                                                            exact zGo.ret rfl rfl
                                                        · replace h := zif_f hb224 h
                                                          by_cases hb232 : (v1 &&& 63) = 26
                                                          · replace h := zif_t hb232 h
                                                            refine zG_sw rfl ((zsw_f hb2).trans ((zsw_f hb10).trans ((zsw_f hb22).trans ((zsw_f hb32).trans ((zsw_f hb42).trans ((zsw_f hb52).trans ((zsw_f hb60).trans ((zsw_f hb68).trans ((zsw_f hb76).trans ((zsw_f hb84).trans ((zsw_f hb92).trans ((zsw_f hb100).trans ((zsw_f hb108).trans ((zsw_f hb116).trans ((zsw_f hb124).trans ((zsw_f hb134).trans ((zsw_f hb142).trans ((zsw_f hb154).trans ((zsw_f hb162).trans ((zsw_f hb170).trans ((zsw_f hb180).trans ((zsw_f hb188).trans ((zsw_f hb196).trans ((zsw_f hb208).trans ((zsw_f hb216).trans ((zsw_f hb224).trans (zsw_t hb232))))))))))))))))))))))))))) ?_
                                                            refine zGo.sts 5 (cf' := (965, [some (.ref 202), some (.ref 0), some (.ref 75), some (.int l3)], [.int (l3 + 1), .ref 202, .ref 0], σ)) rfl ?_
                                                            obtain ⟨v233, hv, h⟩ := zbd h
                                                            refine zG_sd rfl hv ?_
                                                            refine zGo.sts 4 (cf' := (970, [some (.ref 202), some (.ref 0), some (.ref 75), some (.int l3)], [.int (l3 + 2), .ref 202, .int v233, .ref 0], σ)) rfl ?_
                                                            obtain ⟨v234, hv, h⟩ := zbd h
                                                            refine zG_sd rfl hv ?_
                                                            obtain ⟨v235, σ236, hv, h⟩ := zbd2 h
                                                            refine zGo.call rfl rfl (X_kernel_g hv) ?_
                                                            refine zGo.sts 5 (cf' := (979, [some (.ref 202), some (.ref 0), some (.ref 75), some (.int l3)], [.int (l3 + 1), .ref 202, .ref 75, .int v235], σ236)) rfl ?_
                                                            obtain ⟨v237, hv, h⟩ := zbd h
                                                            refine zG_sd rfl hv ?_
                                                            refine zGo.sts 4 (cf' := (984, [some (.ref 202), some (.ref 0), some (.ref 75), some (.int l3)], [.int (l3 + 2), .ref 202, .int v237, .ref 75, .int v235], σ236)) rfl ?_
                                                            obtain ⟨v238, hv, h⟩ := zbd h
                                                            refine zG_sd rfl hv ?_
                                                            obtain ⟨v239, σ240, hv, h⟩ := zbd2 h
                                                            refine zGo.call rfl rfl (M_kernel_g hv) ?_
                                                            by_cases hb241 : v235 = v239
                                                            · replace h := zif_t hb241 h
                                                              refine zC_eq_t rfl hb241 ?_
                                                              refine zGo.sts 2 (cf' := (18, [some (.ref 202), some (.ref 0), some (.ref 75), some (.int (l3 + 4))], [], σ240)) rfl ?_
                                                              exact ih h
                                                            · replace h := zif_f hb241 h
                                                              refine zC_eq_f rfl hb241 ?_
                                                              refine zGo.sts 1 (cf' := (992, [some (.ref 202), some (.ref 0), some (.ref 75), some (.int l3)], [.int 0], σ240)) rfl ?_
                                                              obtain rfl := Option.some.inj h
                                                              exact zGo.ret rfl rfl
                                                          · replace h := zif_f hb232 h
                                                            by_cases hb242 : (v1 &&& 63) = 27
                                                            · replace h := zif_t hb242 h
                                                              refine zG_sw rfl ((zsw_f hb2).trans ((zsw_f hb10).trans ((zsw_f hb22).trans ((zsw_f hb32).trans ((zsw_f hb42).trans ((zsw_f hb52).trans ((zsw_f hb60).trans ((zsw_f hb68).trans ((zsw_f hb76).trans ((zsw_f hb84).trans ((zsw_f hb92).trans ((zsw_f hb100).trans ((zsw_f hb108).trans ((zsw_f hb116).trans ((zsw_f hb124).trans ((zsw_f hb134).trans ((zsw_f hb142).trans ((zsw_f hb154).trans ((zsw_f hb162).trans ((zsw_f hb170).trans ((zsw_f hb180).trans ((zsw_f hb188).trans ((zsw_f hb196).trans ((zsw_f hb208).trans ((zsw_f hb216).trans ((zsw_f hb224).trans ((zsw_f hb232).trans (zsw_t hb242)))))))))))))))))))))))))))) ?_
                                                              refine zGo.sts 5 (cf' := (998, [some (.ref 202), some (.ref 0), some (.ref 75), some (.int l3)], [.int (l3 + 1), .ref 202, .ref 0], σ)) rfl ?_
                                                              obtain ⟨v243, hv, h⟩ := zbd h
                                                              refine zG_sd rfl hv ?_
                                                              refine zGo.sts 4 (cf' := (1003, [some (.ref 202), some (.ref 0), some (.ref 75), some (.int l3)], [.int (l3 + 2), .ref 202, .int v243, .ref 0], σ)) rfl ?_
                                                              obtain ⟨v244, hv, h⟩ := zbd h
                                                              refine zG_sd rfl hv ?_
                                                              obtain ⟨v245, σ246, hv, h⟩ := zbd2 h
                                                              refine zGo.call rfl rfl (X_mend_g hv) ?_
                                                              refine zGo.sts 5 (cf' := (1012, [some (.ref 202), some (.ref 0), some (.ref 75), some (.int l3)], [.int (l3 + 1), .ref 202, .ref 75, .int v245], σ246)) rfl ?_
                                                              obtain ⟨v247, hv, h⟩ := zbd h
                                                              refine zG_sd rfl hv ?_
                                                              refine zGo.sts 4 (cf' := (1017, [some (.ref 202), some (.ref 0), some (.ref 75), some (.int l3)], [.int (l3 + 2), .ref 202, .int v247, .ref 75, .int v245], σ246)) rfl ?_
                                                              obtain ⟨v248, hv, h⟩ := zbd h
                                                              refine zG_sd rfl hv ?_
                                                              obtain ⟨v249, σ250, hv, h⟩ := zbd2 h
                                                              refine zGo.call rfl rfl (M_mend_g hv) ?_
                                                              by_cases hb251 : v245 = v249
                                                              · replace h := zif_t hb251 h
                                                                refine zC_eq_t rfl hb251 ?_
                                                                refine zGo.sts 2 (cf' := (18, [some (.ref 202), some (.ref 0), some (.ref 75), some (.int (l3 + 4))], [], σ250)) rfl ?_
                                                                exact ih h
                                                              · replace h := zif_f hb251 h
                                                                refine zC_eq_f rfl hb251 ?_
                                                                refine zGo.sts 1 (cf' := (1025, [some (.ref 202), some (.ref 0), some (.ref 75), some (.int l3)], [.int 0], σ250)) rfl ?_
                                                                obtain rfl := Option.some.inj h
                                                                exact zGo.ret rfl rfl
                                                            · replace h := zif_f hb242 h
                                                              by_cases hb252 : (v1 &&& 63) = 28
                                                              · replace h := zif_t hb252 h
                                                                refine zG_sw rfl ((zsw_f hb2).trans ((zsw_f hb10).trans ((zsw_f hb22).trans ((zsw_f hb32).trans ((zsw_f hb42).trans ((zsw_f hb52).trans ((zsw_f hb60).trans ((zsw_f hb68).trans ((zsw_f hb76).trans ((zsw_f hb84).trans ((zsw_f hb92).trans ((zsw_f hb100).trans ((zsw_f hb108).trans ((zsw_f hb116).trans ((zsw_f hb124).trans ((zsw_f hb134).trans ((zsw_f hb142).trans ((zsw_f hb154).trans ((zsw_f hb162).trans ((zsw_f hb170).trans ((zsw_f hb180).trans ((zsw_f hb188).trans ((zsw_f hb196).trans ((zsw_f hb208).trans ((zsw_f hb216).trans ((zsw_f hb224).trans ((zsw_f hb232).trans ((zsw_f hb242).trans (zsw_t hb252))))))))))))))))))))))))))))) ?_
                                                                refine zGo.sts 5 (cf' := (1031, [some (.ref 202), some (.ref 0), some (.ref 75), some (.int l3)], [.int (l3 + 1), .ref 202, .ref 0], σ)) rfl ?_
                                                                obtain ⟨v253, hv, h⟩ := zbd h
                                                                refine zG_sd rfl hv ?_
                                                                refine zGo.sts 4 (cf' := (1036, [some (.ref 202), some (.ref 0), some (.ref 75), some (.int l3)], [.int (l3 + 2), .ref 202, .int v253, .ref 0], σ)) rfl ?_
                                                                obtain ⟨v254, hv, h⟩ := zbd h
                                                                refine zG_sd rfl hv ?_
                                                                refine zGo.sts 4 (cf' := (1041, [some (.ref 202), some (.ref 0), some (.ref 75), some (.int l3)], [.int (l3 + 3), .ref 202, .int v254, .int v253, .ref 0], σ)) rfl ?_
                                                                obtain ⟨v255, hv, h⟩ := zbd h
                                                                refine zG_sd rfl hv ?_
                                                                obtain ⟨v256, σ257, hv, h⟩ := zbd2 h
                                                                refine zGo.call rfl rfl (X_mendTwo_g hv) ?_
                                                                refine zGo.sts 5 (cf' := (1050, [some (.ref 202), some (.ref 0), some (.ref 75), some (.int l3)], [.int (l3 + 1), .ref 202, .ref 75, .int v256], σ257)) rfl ?_
                                                                obtain ⟨v258, hv, h⟩ := zbd h
                                                                refine zG_sd rfl hv ?_
                                                                refine zGo.sts 4 (cf' := (1055, [some (.ref 202), some (.ref 0), some (.ref 75), some (.int l3)], [.int (l3 + 2), .ref 202, .int v258, .ref 75, .int v256], σ257)) rfl ?_
                                                                obtain ⟨v259, hv, h⟩ := zbd h
                                                                refine zG_sd rfl hv ?_
                                                                refine zGo.sts 4 (cf' := (1060, [some (.ref 202), some (.ref 0), some (.ref 75), some (.int l3)], [.int (l3 + 3), .ref 202, .int v259, .int v258, .ref 75, .int v256], σ257)) rfl ?_
                                                                obtain ⟨v260, hv, h⟩ := zbd h
                                                                refine zG_sd rfl hv ?_
                                                                obtain ⟨v261, σ262, hv, h⟩ := zbd2 h
                                                                refine zGo.call rfl rfl (M_mendTwo_g hv) ?_
                                                                by_cases hb263 : v256 = v261
                                                                · replace h := zif_t hb263 h
                                                                  refine zC_eq_t rfl hb263 ?_
                                                                  refine zGo.sts 2 (cf' := (18, [some (.ref 202), some (.ref 0), some (.ref 75), some (.int (l3 + 4))], [], σ262)) rfl ?_
                                                                  exact ih h
                                                                · replace h := zif_f hb263 h
                                                                  refine zC_eq_f rfl hb263 ?_
                                                                  refine zGo.sts 1 (cf' := (1068, [some (.ref 202), some (.ref 0), some (.ref 75), some (.int l3)], [.int 0], σ262)) rfl ?_
                                                                  obtain rfl := Option.some.inj h
                                                                  exact zGo.ret rfl rfl
                                                              · replace h := zif_f hb252 h
                                                                by_cases hb264 : (v1 &&& 63) = 29
                                                                · replace h := zif_t hb264 h
                                                                  refine zG_sw rfl ((zsw_f hb2).trans ((zsw_f hb10).trans ((zsw_f hb22).trans ((zsw_f hb32).trans ((zsw_f hb42).trans ((zsw_f hb52).trans ((zsw_f hb60).trans ((zsw_f hb68).trans ((zsw_f hb76).trans ((zsw_f hb84).trans ((zsw_f hb92).trans ((zsw_f hb100).trans ((zsw_f hb108).trans ((zsw_f hb116).trans ((zsw_f hb124).trans ((zsw_f hb134).trans ((zsw_f hb142).trans ((zsw_f hb154).trans ((zsw_f hb162).trans ((zsw_f hb170).trans ((zsw_f hb180).trans ((zsw_f hb188).trans ((zsw_f hb196).trans ((zsw_f hb208).trans ((zsw_f hb216).trans ((zsw_f hb224).trans ((zsw_f hb232).trans ((zsw_f hb242).trans ((zsw_f hb252).trans (zsw_t hb264)))))))))))))))))))))))))))))) ?_
                                                                  refine zGo.sts 5 (cf' := (1074, [some (.ref 202), some (.ref 0), some (.ref 75), some (.int l3)], [.int (l3 + 1), .ref 202, .ref 0], σ)) rfl ?_
                                                                  obtain ⟨v265, hv, h⟩ := zbd h
                                                                  refine zG_sd rfl hv ?_
                                                                  refine zGo.sts 4 (cf' := (1079, [some (.ref 202), some (.ref 0), some (.ref 75), some (.int l3)], [.int (l3 + 2), .ref 202, .int v265, .ref 0], σ)) rfl ?_
                                                                  obtain ⟨v266, hv, h⟩ := zbd h
                                                                  refine zG_sd rfl hv ?_
                                                                  refine zGo.sts 4 (cf' := (1084, [some (.ref 202), some (.ref 0), some (.ref 75), some (.int l3)], [.int (l3 + 3), .ref 202, .int v266, .int v265, .ref 0], σ)) rfl ?_
                                                                  obtain ⟨v267, hv, h⟩ := zbd h
                                                                  refine zG_sd rfl hv ?_
                                                                  obtain ⟨v268, σ269, hv, h⟩ := zbd2 h
                                                                  refine zGo.call rfl rfl (X_fits_g hv) ?_
                                                                  refine zGo.sts 5 (cf' := (1093, [some (.ref 202), some (.ref 0), some (.ref 75), some (.int l3)], [.int (l3 + 1), .ref 202, .ref 75, .int v268], σ269)) rfl ?_
                                                                  obtain ⟨v270, hv, h⟩ := zbd h
                                                                  refine zG_sd rfl hv ?_
                                                                  refine zGo.sts 4 (cf' := (1098, [some (.ref 202), some (.ref 0), some (.ref 75), some (.int l3)], [.int (l3 + 2), .ref 202, .int v270, .ref 75, .int v268], σ269)) rfl ?_
                                                                  obtain ⟨v271, hv, h⟩ := zbd h
                                                                  refine zG_sd rfl hv ?_
                                                                  refine zGo.sts 4 (cf' := (1103, [some (.ref 202), some (.ref 0), some (.ref 75), some (.int l3)], [.int (l3 + 3), .ref 202, .int v271, .int v270, .ref 75, .int v268], σ269)) rfl ?_
                                                                  obtain ⟨v272, hv, h⟩ := zbd h
                                                                  refine zG_sd rfl hv ?_
                                                                  obtain ⟨v273, σ274, hv, h⟩ := zbd2 h
                                                                  refine zGo.call rfl rfl (M_fits_g hv) ?_
                                                                  by_cases hb275 : v268 = v273
                                                                  · replace h := zif_t hb275 h
                                                                    refine zC_eq_t rfl hb275 ?_
                                                                    refine zGo.sts 2 (cf' := (18, [some (.ref 202), some (.ref 0), some (.ref 75), some (.int (l3 + 4))], [], σ274)) rfl ?_
                                                                    exact ih h
                                                                  · replace h := zif_f hb275 h
                                                                    refine zC_eq_f rfl hb275 ?_
                                                                    refine zGo.sts 1 (cf' := (1111, [some (.ref 202), some (.ref 0), some (.ref 75), some (.int l3)], [.int 0], σ274)) rfl ?_
                                                                    obtain rfl := Option.some.inj h
                                                                    exact zGo.ret rfl rfl
                                                                · replace h := zif_f hb264 h
                                                                  by_cases hb276 : (v1 &&& 63) = 30
                                                                  · replace h := zif_t hb276 h
                                                                    refine zG_sw rfl ((zsw_f hb2).trans ((zsw_f hb10).trans ((zsw_f hb22).trans ((zsw_f hb32).trans ((zsw_f hb42).trans ((zsw_f hb52).trans ((zsw_f hb60).trans ((zsw_f hb68).trans ((zsw_f hb76).trans ((zsw_f hb84).trans ((zsw_f hb92).trans ((zsw_f hb100).trans ((zsw_f hb108).trans ((zsw_f hb116).trans ((zsw_f hb124).trans ((zsw_f hb134).trans ((zsw_f hb142).trans ((zsw_f hb154).trans ((zsw_f hb162).trans ((zsw_f hb170).trans ((zsw_f hb180).trans ((zsw_f hb188).trans ((zsw_f hb196).trans ((zsw_f hb208).trans ((zsw_f hb216).trans ((zsw_f hb224).trans ((zsw_f hb232).trans ((zsw_f hb242).trans ((zsw_f hb252).trans ((zsw_f hb264).trans (zsw_t hb276))))))))))))))))))))))))))))))) ?_
                                                                    refine zGo.sts 5 (cf' := (1117, [some (.ref 202), some (.ref 0), some (.ref 75), some (.int l3)], [.int (l3 + 1), .ref 202, .ref 0], σ)) rfl ?_
                                                                    obtain ⟨v277, hv, h⟩ := zbd h
                                                                    refine zG_sd rfl hv ?_
                                                                    obtain ⟨v278, hv, h⟩ := zbd h
                                                                    refine zGo.call rfl rfl (X_judge_g hv) ?_
                                                                    refine zGo.sts 5 (cf' := (1126, [some (.ref 202), some (.ref 0), some (.ref 75), some (.int l3)], [.int (l3 + 1), .ref 202, .ref 75, .int v278], σ)) rfl ?_
                                                                    obtain ⟨v279, hv, h⟩ := zbd h
                                                                    refine zG_sd rfl hv ?_
                                                                    obtain ⟨v280, σ281, hv, h⟩ := zbd2 h
                                                                    refine zGo.call rfl rfl (M_judge_g hv) ?_
                                                                    by_cases hb282 : v278 = v280
                                                                    · replace h := zif_t hb282 h
                                                                      refine zC_eq_t rfl hb282 ?_
                                                                      refine zGo.sts 2 (cf' := (18, [some (.ref 202), some (.ref 0), some (.ref 75), some (.int (l3 + 4))], [], σ281)) rfl ?_
                                                                      exact ih h
                                                                    · replace h := zif_f hb282 h
                                                                      refine zC_eq_f rfl hb282 ?_
                                                                      refine zGo.sts 1 (cf' := (1134, [some (.ref 202), some (.ref 0), some (.ref 75), some (.int l3)], [.int 0], σ281)) rfl ?_
                                                                      obtain rfl := Option.some.inj h
                                                                      exact zGo.ret rfl rfl
                                                                  · replace h := zif_f hb276 h
                                                                    by_cases hb283 : (v1 &&& 63) = 31
                                                                    · replace h := zif_t hb283 h
                                                                      refine zG_sw rfl ((zsw_f hb2).trans ((zsw_f hb10).trans ((zsw_f hb22).trans ((zsw_f hb32).trans ((zsw_f hb42).trans ((zsw_f hb52).trans ((zsw_f hb60).trans ((zsw_f hb68).trans ((zsw_f hb76).trans ((zsw_f hb84).trans ((zsw_f hb92).trans ((zsw_f hb100).trans ((zsw_f hb108).trans ((zsw_f hb116).trans ((zsw_f hb124).trans ((zsw_f hb134).trans ((zsw_f hb142).trans ((zsw_f hb154).trans ((zsw_f hb162).trans ((zsw_f hb170).trans ((zsw_f hb180).trans ((zsw_f hb188).trans ((zsw_f hb196).trans ((zsw_f hb208).trans ((zsw_f hb216).trans ((zsw_f hb224).trans ((zsw_f hb232).trans ((zsw_f hb242).trans ((zsw_f hb252).trans ((zsw_f hb264).trans ((zsw_f hb276).trans (zsw_t hb283)))))))))))))))))))))))))))))))) ?_
                                                                      refine zGo.sts 1 (cf' := (1136, [some (.ref 202), some (.ref 0), some (.ref 75), some (.int l3)], [.ref 0], σ)) rfl ?_
                                                                      obtain ⟨v284, σ285, hv, h⟩ := zbd2 h
                                                                      refine zGo.call rfl rfl (X_undo_g hv) ?_
                                                                      refine zGo.sts 1 (cf' := (1140, [some (.ref 202), some (.ref 0), some (.ref 75), some (.int l3)], [.ref 75, .int v284], σ285)) rfl ?_
                                                                      obtain ⟨v286, σ287, hv, h⟩ := zbd2 h
                                                                      refine zGo.call rfl rfl (M_undo_g hv) ?_
                                                                      by_cases hb288 : v284 = v286
                                                                      · replace h := zif_t hb288 h
                                                                        refine zC_eq_t rfl hb288 ?_
                                                                        refine zGo.sts 2 (cf' := (18, [some (.ref 202), some (.ref 0), some (.ref 75), some (.int (l3 + 4))], [], σ287)) rfl ?_
                                                                        exact ih h
                                                                      · replace h := zif_f hb288 h
                                                                        refine zC_eq_f rfl hb288 ?_
                                                                        refine zGo.sts 1 (cf' := (1147, [some (.ref 202), some (.ref 0), some (.ref 75), some (.int l3)], [.int 0], σ287)) rfl ?_
                                                                        obtain rfl := Option.some.inj h
                                                                        exact zGo.ret rfl rfl
                                                                    · replace h := zif_f hb283 h
                                                                      by_cases hb289 : (v1 &&& 63) = 32
                                                                      · replace h := zif_t hb289 h
                                                                        refine zG_sw rfl ((zsw_f hb2).trans ((zsw_f hb10).trans ((zsw_f hb22).trans ((zsw_f hb32).trans ((zsw_f hb42).trans ((zsw_f hb52).trans ((zsw_f hb60).trans ((zsw_f hb68).trans ((zsw_f hb76).trans ((zsw_f hb84).trans ((zsw_f hb92).trans ((zsw_f hb100).trans ((zsw_f hb108).trans ((zsw_f hb116).trans ((zsw_f hb124).trans ((zsw_f hb134).trans ((zsw_f hb142).trans ((zsw_f hb154).trans ((zsw_f hb162).trans ((zsw_f hb170).trans ((zsw_f hb180).trans ((zsw_f hb188).trans ((zsw_f hb196).trans ((zsw_f hb208).trans ((zsw_f hb216).trans ((zsw_f hb224).trans ((zsw_f hb232).trans ((zsw_f hb242).trans ((zsw_f hb252).trans ((zsw_f hb264).trans ((zsw_f hb276).trans ((zsw_f hb283).trans (zsw_t hb289))))))))))))))))))))))))))))))))) ?_
                                                                        refine zGo.sts 1 (cf' := (1149, [some (.ref 202), some (.ref 0), some (.ref 75), some (.int l3)], [.ref 0], σ)) rfl ?_
                                                                        obtain ⟨v290, σ291, hv, h⟩ := zbd2 h
                                                                        refine zGo.call rfl rfl (X_redo_g hv) ?_
                                                                        refine zGo.sts 1 (cf' := (1153, [some (.ref 202), some (.ref 0), some (.ref 75), some (.int l3)], [.ref 75, .int v290], σ291)) rfl ?_
                                                                        obtain ⟨v292, σ293, hv, h⟩ := zbd2 h
                                                                        refine zGo.call rfl rfl (M_redo_g hv) ?_
                                                                        by_cases hb294 : v290 = v292
                                                                        · replace h := zif_t hb294 h
                                                                          refine zC_eq_t rfl hb294 ?_
                                                                          refine zGo.sts 2 (cf' := (18, [some (.ref 202), some (.ref 0), some (.ref 75), some (.int (l3 + 4))], [], σ293)) rfl ?_
                                                                          exact ih h
                                                                        · replace h := zif_f hb294 h
                                                                          refine zC_eq_f rfl hb294 ?_
                                                                          refine zGo.sts 1 (cf' := (1160, [some (.ref 202), some (.ref 0), some (.ref 75), some (.int l3)], [.int 0], σ293)) rfl ?_
                                                                          obtain rfl := Option.some.inj h
                                                                          exact zGo.ret rfl rfl
                                                                      · replace h := zif_f hb289 h
                                                                        by_cases hb295 : (v1 &&& 63) = 33
                                                                        · replace h := zif_t hb295 h
                                                                          refine zG_sw rfl ((zsw_f hb2).trans ((zsw_f hb10).trans ((zsw_f hb22).trans ((zsw_f hb32).trans ((zsw_f hb42).trans ((zsw_f hb52).trans ((zsw_f hb60).trans ((zsw_f hb68).trans ((zsw_f hb76).trans ((zsw_f hb84).trans ((zsw_f hb92).trans ((zsw_f hb100).trans ((zsw_f hb108).trans ((zsw_f hb116).trans ((zsw_f hb124).trans ((zsw_f hb134).trans ((zsw_f hb142).trans ((zsw_f hb154).trans ((zsw_f hb162).trans ((zsw_f hb170).trans ((zsw_f hb180).trans ((zsw_f hb188).trans ((zsw_f hb196).trans ((zsw_f hb208).trans ((zsw_f hb216).trans ((zsw_f hb224).trans ((zsw_f hb232).trans ((zsw_f hb242).trans ((zsw_f hb252).trans ((zsw_f hb264).trans ((zsw_f hb276).trans ((zsw_f hb283).trans ((zsw_f hb289).trans (zsw_t hb295)))))))))))))))))))))))))))))))))) ?_
                                                                          refine zGo.sts 5 (cf' := (1166, [some (.ref 202), some (.ref 0), some (.ref 75), some (.int l3)], [.int (l3 + 1), .ref 202, .ref 0], σ)) rfl ?_
                                                                          obtain ⟨v296, hv, h⟩ := zbd h
                                                                          refine zG_sd rfl hv ?_
                                                                          obtain ⟨v297, σ298, hv, h⟩ := zbd2 h
                                                                          refine zGo.call rfl rfl (X_feed_g hv) ?_
                                                                          refine zGo.sts 5 (cf' := (1175, [some (.ref 202), some (.ref 0), some (.ref 75), some (.int l3)], [.int (l3 + 1), .ref 202, .ref 75, .int v297], σ298)) rfl ?_
                                                                          obtain ⟨v299, hv, h⟩ := zbd h
                                                                          refine zG_sd rfl hv ?_
                                                                          obtain ⟨v300, σ301, hv, h⟩ := zbd2 h
                                                                          refine zGo.call rfl rfl (M_feed_g hv) ?_
                                                                          by_cases hb302 : v297 = v300
                                                                          · replace h := zif_t hb302 h
                                                                            refine zC_eq_t rfl hb302 ?_
                                                                            refine zGo.sts 2 (cf' := (18, [some (.ref 202), some (.ref 0), some (.ref 75), some (.int (l3 + 4))], [], σ301)) rfl ?_
                                                                            exact ih h
                                                                          · replace h := zif_f hb302 h
                                                                            refine zC_eq_f rfl hb302 ?_
                                                                            refine zGo.sts 1 (cf' := (1183, [some (.ref 202), some (.ref 0), some (.ref 75), some (.int l3)], [.int 0], σ301)) rfl ?_
                                                                            obtain rfl := Option.some.inj h
                                                                            exact zGo.ret rfl rfl
                                                                        · replace h := zif_f hb295 h
                                                                          by_cases hb303 : (v1 &&& 63) = 34
                                                                          · replace h := zif_t hb303 h
                                                                            refine zG_sw rfl ((zsw_f hb2).trans ((zsw_f hb10).trans ((zsw_f hb22).trans ((zsw_f hb32).trans ((zsw_f hb42).trans ((zsw_f hb52).trans ((zsw_f hb60).trans ((zsw_f hb68).trans ((zsw_f hb76).trans ((zsw_f hb84).trans ((zsw_f hb92).trans ((zsw_f hb100).trans ((zsw_f hb108).trans ((zsw_f hb116).trans ((zsw_f hb124).trans ((zsw_f hb134).trans ((zsw_f hb142).trans ((zsw_f hb154).trans ((zsw_f hb162).trans ((zsw_f hb170).trans ((zsw_f hb180).trans ((zsw_f hb188).trans ((zsw_f hb196).trans ((zsw_f hb208).trans ((zsw_f hb216).trans ((zsw_f hb224).trans ((zsw_f hb232).trans ((zsw_f hb242).trans ((zsw_f hb252).trans ((zsw_f hb264).trans ((zsw_f hb276).trans ((zsw_f hb283).trans ((zsw_f hb289).trans ((zsw_f hb295).trans (zsw_t hb303))))))))))))))))))))))))))))))))))) ?_
                                                                            refine zGo.sts 1 (cf' := (1185, [some (.ref 202), some (.ref 0), some (.ref 75), some (.int l3)], [.ref 0], σ)) rfl ?_
                                                                            obtain ⟨v304, σ305, hv, h⟩ := zbd2 h
                                                                            refine zGo.call rfl rfl (X_wipe_g hv) ?_
                                                                            refine zGo.sts 1 (cf' := (1189, [some (.ref 202), some (.ref 0), some (.ref 75), some (.int l3)], [.ref 75, .int v304], σ305)) rfl ?_
                                                                            obtain ⟨v306, σ307, hv, h⟩ := zbd2 h
                                                                            refine zGo.call rfl rfl (M_wipe_g hv) ?_
                                                                            by_cases hb308 : v304 = v306
                                                                            · replace h := zif_t hb308 h
                                                                              refine zC_eq_t rfl hb308 ?_
                                                                              refine zGo.sts 2 (cf' := (18, [some (.ref 202), some (.ref 0), some (.ref 75), some (.int (l3 + 4))], [], σ307)) rfl ?_
                                                                              exact ih h
                                                                            · replace h := zif_f hb308 h
                                                                              refine zC_eq_f rfl hb308 ?_
                                                                              refine zGo.sts 1 (cf' := (1196, [some (.ref 202), some (.ref 0), some (.ref 75), some (.int l3)], [.int 0], σ307)) rfl ?_
                                                                              obtain rfl := Option.some.inj h
                                                                              exact zGo.ret rfl rfl
                                                                          · replace h := zif_f hb303 h
                                                                            by_cases hb309 : (v1 &&& 63) = 35
                                                                            · replace h := zif_t hb309 h
                                                                              refine zG_sw rfl ((zsw_f hb2).trans ((zsw_f hb10).trans ((zsw_f hb22).trans ((zsw_f hb32).trans ((zsw_f hb42).trans ((zsw_f hb52).trans ((zsw_f hb60).trans ((zsw_f hb68).trans ((zsw_f hb76).trans ((zsw_f hb84).trans ((zsw_f hb92).trans ((zsw_f hb100).trans ((zsw_f hb108).trans ((zsw_f hb116).trans ((zsw_f hb124).trans ((zsw_f hb134).trans ((zsw_f hb142).trans ((zsw_f hb154).trans ((zsw_f hb162).trans ((zsw_f hb170).trans ((zsw_f hb180).trans ((zsw_f hb188).trans ((zsw_f hb196).trans ((zsw_f hb208).trans ((zsw_f hb216).trans ((zsw_f hb224).trans ((zsw_f hb232).trans ((zsw_f hb242).trans ((zsw_f hb252).trans ((zsw_f hb264).trans ((zsw_f hb276).trans ((zsw_f hb283).trans ((zsw_f hb289).trans ((zsw_f hb295).trans ((zsw_f hb303).trans (zsw_t hb309)))))))))))))))))))))))))))))))))))) ?_
                                                                              refine zGo.sts 1 (cf' := (1198, [some (.ref 202), some (.ref 0), some (.ref 75), some (.int l3)], [.ref 0], σ)) rfl ?_
                                                                              obtain ⟨v310, σ311, hv, h⟩ := zbd2 h
                                                                              refine zGo.call rfl rfl (X_read_g hv) ?_
                                                                              refine zGo.sts 1 (cf' := (1202, [some (.ref 202), some (.ref 0), some (.ref 75), some (.int l3)], [.ref 75, .int v310], σ311)) rfl ?_
                                                                              obtain ⟨v312, σ313, hv, h⟩ := zbd2 h
                                                                              refine zGo.call rfl rfl (M_read_g hv) ?_
                                                                              by_cases hb314 : v310 = v312
                                                                              · replace h := zif_t hb314 h
                                                                                refine zC_eq_t rfl hb314 ?_
                                                                                refine zGo.sts 2 (cf' := (18, [some (.ref 202), some (.ref 0), some (.ref 75), some (.int (l3 + 4))], [], σ313)) rfl ?_
                                                                                exact ih h
                                                                              · replace h := zif_f hb314 h
                                                                                refine zC_eq_f rfl hb314 ?_
                                                                                refine zGo.sts 1 (cf' := (1209, [some (.ref 202), some (.ref 0), some (.ref 75), some (.int l3)], [.int 0], σ313)) rfl ?_
                                                                                obtain rfl := Option.some.inj h
                                                                                exact zGo.ret rfl rfl
                                                                            · replace h := zif_f hb309 h
                                                                              by_cases hb315 : (v1 &&& 63) = 36
                                                                              · replace h := zif_t hb315 h
                                                                                refine zG_sw rfl ((zsw_f hb2).trans ((zsw_f hb10).trans ((zsw_f hb22).trans ((zsw_f hb32).trans ((zsw_f hb42).trans ((zsw_f hb52).trans ((zsw_f hb60).trans ((zsw_f hb68).trans ((zsw_f hb76).trans ((zsw_f hb84).trans ((zsw_f hb92).trans ((zsw_f hb100).trans ((zsw_f hb108).trans ((zsw_f hb116).trans ((zsw_f hb124).trans ((zsw_f hb134).trans ((zsw_f hb142).trans ((zsw_f hb154).trans ((zsw_f hb162).trans ((zsw_f hb170).trans ((zsw_f hb180).trans ((zsw_f hb188).trans ((zsw_f hb196).trans ((zsw_f hb208).trans ((zsw_f hb216).trans ((zsw_f hb224).trans ((zsw_f hb232).trans ((zsw_f hb242).trans ((zsw_f hb252).trans ((zsw_f hb264).trans ((zsw_f hb276).trans ((zsw_f hb283).trans ((zsw_f hb289).trans ((zsw_f hb295).trans ((zsw_f hb303).trans ((zsw_f hb309).trans (zsw_t hb315))))))))))))))))))))))))))))))))))))) ?_
                                                                                refine zGo.sts 5 (cf' := (1215, [some (.ref 202), some (.ref 0), some (.ref 75), some (.int l3)], [.int (l3 + 1), .ref 202, .ref 0], σ)) rfl ?_
                                                                                obtain ⟨v316, hv, h⟩ := zbd h
                                                                                refine zG_sd rfl hv ?_
                                                                                refine zGo.sts 4 (cf' := (1220, [some (.ref 202), some (.ref 0), some (.ref 75), some (.int l3)], [.int (l3 + 2), .ref 202, .int v316, .ref 0], σ)) rfl ?_
                                                                                obtain ⟨v317, hv, h⟩ := zbd h
                                                                                refine zG_sd rfl hv ?_
                                                                                obtain ⟨v318, σ319, hv, h⟩ := zbd2 h
                                                                                refine zGo.call rfl rfl (X_row_g hv) ?_
                                                                                refine zGo.sts 5 (cf' := (1229, [some (.ref 202), some (.ref 0), some (.ref 75), some (.int l3)], [.int (l3 + 1), .ref 202, .ref 75, .int v318], σ319)) rfl ?_
                                                                                obtain ⟨v320, hv, h⟩ := zbd h
                                                                                refine zG_sd rfl hv ?_
                                                                                refine zGo.sts 4 (cf' := (1234, [some (.ref 202), some (.ref 0), some (.ref 75), some (.int l3)], [.int (l3 + 2), .ref 202, .int v320, .ref 75, .int v318], σ319)) rfl ?_
                                                                                obtain ⟨v321, hv, h⟩ := zbd h
                                                                                refine zG_sd rfl hv ?_
                                                                                obtain ⟨v322, σ323, hv, h⟩ := zbd2 h
                                                                                refine zGo.call rfl rfl (M_row_g hv) ?_
                                                                                by_cases hb324 : v318 = v322
                                                                                · replace h := zif_t hb324 h
                                                                                  refine zC_eq_t rfl hb324 ?_
                                                                                  refine zGo.sts 2 (cf' := (18, [some (.ref 202), some (.ref 0), some (.ref 75), some (.int (l3 + 4))], [], σ323)) rfl ?_
                                                                                  exact ih h
                                                                                · replace h := zif_f hb324 h
                                                                                  refine zC_eq_f rfl hb324 ?_
                                                                                  refine zGo.sts 1 (cf' := (1242, [some (.ref 202), some (.ref 0), some (.ref 75), some (.int l3)], [.int 0], σ323)) rfl ?_
                                                                                  obtain rfl := Option.some.inj h
                                                                                  exact zGo.ret rfl rfl
                                                                              · replace h := zif_f hb315 h
                                                                                by_cases hb325 : (v1 &&& 63) = 37
                                                                                · replace h := zif_t hb325 h
                                                                                  refine zG_sw rfl ((zsw_f hb2).trans ((zsw_f hb10).trans ((zsw_f hb22).trans ((zsw_f hb32).trans ((zsw_f hb42).trans ((zsw_f hb52).trans ((zsw_f hb60).trans ((zsw_f hb68).trans ((zsw_f hb76).trans ((zsw_f hb84).trans ((zsw_f hb92).trans ((zsw_f hb100).trans ((zsw_f hb108).trans ((zsw_f hb116).trans ((zsw_f hb124).trans ((zsw_f hb134).trans ((zsw_f hb142).trans ((zsw_f hb154).trans ((zsw_f hb162).trans ((zsw_f hb170).trans ((zsw_f hb180).trans ((zsw_f hb188).trans ((zsw_f hb196).trans ((zsw_f hb208).trans ((zsw_f hb216).trans ((zsw_f hb224).trans ((zsw_f hb232).trans ((zsw_f hb242).trans ((zsw_f hb252).trans ((zsw_f hb264).trans ((zsw_f hb276).trans ((zsw_f hb283).trans ((zsw_f hb289).trans ((zsw_f hb295).trans ((zsw_f hb303).trans ((zsw_f hb309).trans ((zsw_f hb315).trans (zsw_t hb325)))))))))))))))))))))))))))))))))))))) ?_
                                                                                  refine zGo.sts 5 (cf' := (1248, [some (.ref 202), some (.ref 0), some (.ref 75), some (.int l3)], [.int (l3 + 1), .ref 202, .ref 0], σ)) rfl ?_
                                                                                  obtain ⟨v326, hv, h⟩ := zbd h
                                                                                  refine zG_sd rfl hv ?_
                                                                                  refine zGo.sts 4 (cf' := (1253, [some (.ref 202), some (.ref 0), some (.ref 75), some (.int l3)], [.int (l3 + 2), .ref 202, .int v326, .ref 0], σ)) rfl ?_
                                                                                  obtain ⟨v327, hv, h⟩ := zbd h
                                                                                  refine zG_sd rfl hv ?_
                                                                                  refine zGo.sts 4 (cf' := (1258, [some (.ref 202), some (.ref 0), some (.ref 75), some (.int l3)], [.int (l3 + 3), .ref 202, .int v327, .int v326, .ref 0], σ)) rfl ?_
                                                                                  obtain ⟨v328, hv, h⟩ := zbd h
                                                                                  refine zG_sd rfl hv ?_
                                                                                  obtain ⟨v329, σ330, hv, h⟩ := zbd2 h
                                                                                  refine zGo.call rfl rfl (X_put_g hv) ?_
                                                                                  refine zGo.sts 5 (cf' := (1267, [some (.ref 202), some (.ref 0), some (.ref 75), some (.int l3)], [.int (l3 + 1), .ref 202, .ref 75, .int v329], σ330)) rfl ?_
                                                                                  obtain ⟨v331, hv, h⟩ := zbd h
                                                                                  refine zG_sd rfl hv ?_
                                                                                  refine zGo.sts 4 (cf' := (1272, [some (.ref 202), some (.ref 0), some (.ref 75), some (.int l3)], [.int (l3 + 2), .ref 202, .int v331, .ref 75, .int v329], σ330)) rfl ?_
                                                                                  obtain ⟨v332, hv, h⟩ := zbd h
                                                                                  refine zG_sd rfl hv ?_
                                                                                  refine zGo.sts 4 (cf' := (1277, [some (.ref 202), some (.ref 0), some (.ref 75), some (.int l3)], [.int (l3 + 3), .ref 202, .int v332, .int v331, .ref 75, .int v329], σ330)) rfl ?_
                                                                                  obtain ⟨v333, hv, h⟩ := zbd h
                                                                                  refine zG_sd rfl hv ?_
                                                                                  obtain ⟨v334, σ335, hv, h⟩ := zbd2 h
                                                                                  refine zGo.call rfl rfl (M_put_g hv) ?_
                                                                                  by_cases hb336 : v329 = v334
                                                                                  · replace h := zif_t hb336 h
                                                                                    refine zC_eq_t rfl hb336 ?_
                                                                                    refine zGo.sts 2 (cf' := (18, [some (.ref 202), some (.ref 0), some (.ref 75), some (.int (l3 + 4))], [], σ335)) rfl ?_
                                                                                    exact ih h
                                                                                  · replace h := zif_f hb336 h
                                                                                    refine zC_eq_f rfl hb336 ?_
                                                                                    refine zGo.sts 1 (cf' := (1285, [some (.ref 202), some (.ref 0), some (.ref 75), some (.int l3)], [.int 0], σ335)) rfl ?_
                                                                                    obtain rfl := Option.some.inj h
                                                                                    exact zGo.ret rfl rfl
                                                                                · replace h := zif_f hb325 h
                                                                                  by_cases hb337 : (v1 &&& 63) = 38
                                                                                  · replace h := zif_t hb337 h
                                                                                    refine zG_sw rfl ((zsw_f hb2).trans ((zsw_f hb10).trans ((zsw_f hb22).trans ((zsw_f hb32).trans ((zsw_f hb42).trans ((zsw_f hb52).trans ((zsw_f hb60).trans ((zsw_f hb68).trans ((zsw_f hb76).trans ((zsw_f hb84).trans ((zsw_f hb92).trans ((zsw_f hb100).trans ((zsw_f hb108).trans ((zsw_f hb116).trans ((zsw_f hb124).trans ((zsw_f hb134).trans ((zsw_f hb142).trans ((zsw_f hb154).trans ((zsw_f hb162).trans ((zsw_f hb170).trans ((zsw_f hb180).trans ((zsw_f hb188).trans ((zsw_f hb196).trans ((zsw_f hb208).trans ((zsw_f hb216).trans ((zsw_f hb224).trans ((zsw_f hb232).trans ((zsw_f hb242).trans ((zsw_f hb252).trans ((zsw_f hb264).trans ((zsw_f hb276).trans ((zsw_f hb283).trans ((zsw_f hb289).trans ((zsw_f hb295).trans ((zsw_f hb303).trans ((zsw_f hb309).trans ((zsw_f hb315).trans ((zsw_f hb325).trans (zsw_t hb337))))))))))))))))))))))))))))))))))))))) ?_
                                                                                    refine zGo.sts 5 (cf' := (1291, [some (.ref 202), some (.ref 0), some (.ref 75), some (.int l3)], [.int (l3 + 1), .ref 202, .ref 0], σ)) rfl ?_
                                                                                    obtain ⟨v338, hv, h⟩ := zbd h
                                                                                    refine zG_sd rfl hv ?_
                                                                                    refine zGo.sts 4 (cf' := (1296, [some (.ref 202), some (.ref 0), some (.ref 75), some (.int l3)], [.int (l3 + 2), .ref 202, .int v338, .ref 0], σ)) rfl ?_
                                                                                    obtain ⟨v339, hv, h⟩ := zbd h
                                                                                    refine zG_sd rfl hv ?_
                                                                                    obtain ⟨v340, hv, h⟩ := zbd h
                                                                                    refine zGo.call rfl rfl (X_get_g hv) ?_
                                                                                    refine zGo.sts 5 (cf' := (1305, [some (.ref 202), some (.ref 0), some (.ref 75), some (.int l3)], [.int (l3 + 1), .ref 202, .ref 75, .int v340], σ)) rfl ?_
                                                                                    obtain ⟨v341, hv, h⟩ := zbd h
                                                                                    refine zG_sd rfl hv ?_
                                                                                    refine zGo.sts 4 (cf' := (1310, [some (.ref 202), some (.ref 0), some (.ref 75), some (.int l3)], [.int (l3 + 2), .ref 202, .int v341, .ref 75, .int v340], σ)) rfl ?_
                                                                                    obtain ⟨v342, hv, h⟩ := zbd h
                                                                                    refine zG_sd rfl hv ?_
                                                                                    obtain ⟨v343, hv, h⟩ := zbd h
                                                                                    refine zGo.call rfl rfl (M_get_g hv) ?_
                                                                                    by_cases hb344 : v340 = v343
                                                                                    · replace h := zif_t hb344 h
                                                                                      refine zC_eq_t rfl hb344 ?_
                                                                                      refine zGo.sts 2 (cf' := (18, [some (.ref 202), some (.ref 0), some (.ref 75), some (.int (l3 + 4))], [], σ)) rfl ?_
                                                                                      exact ih h
                                                                                    · replace h := zif_f hb344 h
                                                                                      refine zC_eq_f rfl hb344 ?_
                                                                                      refine zGo.sts 1 (cf' := (1318, [some (.ref 202), some (.ref 0), some (.ref 75), some (.int l3)], [.int 0], σ)) rfl ?_
                                                                                      obtain rfl := Option.some.inj h
                                                                                      exact zGo.ret rfl rfl
                                                                                  · replace h := zif_f hb337 h
                                                                                    by_cases hb345 : (v1 &&& 63) = 39
                                                                                    · replace h := zif_t hb345 h
                                                                                      refine zG_sw rfl ((zsw_f hb2).trans ((zsw_f hb10).trans ((zsw_f hb22).trans ((zsw_f hb32).trans ((zsw_f hb42).trans ((zsw_f hb52).trans ((zsw_f hb60).trans ((zsw_f hb68).trans ((zsw_f hb76).trans ((zsw_f hb84).trans ((zsw_f hb92).trans ((zsw_f hb100).trans ((zsw_f hb108).trans ((zsw_f hb116).trans ((zsw_f hb124).trans ((zsw_f hb134).trans ((zsw_f hb142).trans ((zsw_f hb154).trans ((zsw_f hb162).trans ((zsw_f hb170).trans ((zsw_f hb180).trans ((zsw_f hb188).trans ((zsw_f hb196).trans ((zsw_f hb208).trans ((zsw_f hb216).trans ((zsw_f hb224).trans ((zsw_f hb232).trans ((zsw_f hb242).trans ((zsw_f hb252).trans ((zsw_f hb264).trans ((zsw_f hb276).trans ((zsw_f hb283).trans ((zsw_f hb289).trans ((zsw_f hb295).trans ((zsw_f hb303).trans ((zsw_f hb309).trans ((zsw_f hb315).trans ((zsw_f hb325).trans ((zsw_f hb337).trans (zsw_t hb345)))))))))))))))))))))))))))))))))))))))) ?_
                                                                                      refine zGo.sts 5 (cf' := (1324, [some (.ref 202), some (.ref 0), some (.ref 75), some (.int l3)], [.int (l3 + 1), .ref 202, .ref 0], σ)) rfl ?_
                                                                                      obtain ⟨v346, hv, h⟩ := zbd h
                                                                                      refine zG_sd rfl hv ?_
                                                                                      refine zGo.sts 4 (cf' := (1329, [some (.ref 202), some (.ref 0), some (.ref 75), some (.int l3)], [.int (l3 + 2), .ref 202, .int v346, .ref 0], σ)) rfl ?_
                                                                                      obtain ⟨v347, hv, h⟩ := zbd h
                                                                                      refine zG_sd rfl hv ?_
                                                                                      refine zGo.sts 4 (cf' := (1334, [some (.ref 202), some (.ref 0), some (.ref 75), some (.int l3)], [.int (l3 + 3), .ref 202, .int v347, .int v346, .ref 0], σ)) rfl ?_
                                                                                      obtain ⟨v348, hv, h⟩ := zbd h
                                                                                      refine zG_sd rfl hv ?_
                                                                                      obtain ⟨v349, σ350, hv, h⟩ := zbd2 h
                                                                                      refine zGo.call rfl rfl (X_film_g hv) ?_
                                                                                      refine zGo.sts 5 (cf' := (1343, [some (.ref 202), some (.ref 0), some (.ref 75), some (.int l3)], [.int (l3 + 1), .ref 202, .ref 75, .int v349], σ350)) rfl ?_
                                                                                      obtain ⟨v351, hv, h⟩ := zbd h
                                                                                      refine zG_sd rfl hv ?_
                                                                                      refine zGo.sts 4 (cf' := (1348, [some (.ref 202), some (.ref 0), some (.ref 75), some (.int l3)], [.int (l3 + 2), .ref 202, .int v351, .ref 75, .int v349], σ350)) rfl ?_
                                                                                      obtain ⟨v352, hv, h⟩ := zbd h
                                                                                      refine zG_sd rfl hv ?_
                                                                                      refine zGo.sts 4 (cf' := (1353, [some (.ref 202), some (.ref 0), some (.ref 75), some (.int l3)], [.int (l3 + 3), .ref 202, .int v352, .int v351, .ref 75, .int v349], σ350)) rfl ?_
                                                                                      obtain ⟨v353, hv, h⟩ := zbd h
                                                                                      refine zG_sd rfl hv ?_
                                                                                      obtain ⟨v354, σ355, hv, h⟩ := zbd2 h
                                                                                      refine zGo.call rfl rfl (M_film_g hv) ?_
                                                                                      by_cases hb356 : v349 = v354
                                                                                      · replace h := zif_t hb356 h
                                                                                        refine zC_eq_t rfl hb356 ?_
                                                                                        refine zGo.sts 2 (cf' := (18, [some (.ref 202), some (.ref 0), some (.ref 75), some (.int (l3 + 4))], [], σ355)) rfl ?_
                                                                                        exact ih h
                                                                                      · replace h := zif_f hb356 h
                                                                                        refine zC_eq_f rfl hb356 ?_
                                                                                        refine zGo.sts 1 (cf' := (1361, [some (.ref 202), some (.ref 0), some (.ref 75), some (.int l3)], [.int 0], σ355)) rfl ?_
                                                                                        obtain rfl := Option.some.inj h
                                                                                        exact zGo.ret rfl rfl
                                                                                    · replace h := zif_f hb345 h
                                                                                      by_cases hb357 : (v1 &&& 63) = 40
                                                                                      · replace h := zif_t hb357 h
                                                                                        refine zG_sw rfl ((zsw_f hb2).trans ((zsw_f hb10).trans ((zsw_f hb22).trans ((zsw_f hb32).trans ((zsw_f hb42).trans ((zsw_f hb52).trans ((zsw_f hb60).trans ((zsw_f hb68).trans ((zsw_f hb76).trans ((zsw_f hb84).trans ((zsw_f hb92).trans ((zsw_f hb100).trans ((zsw_f hb108).trans ((zsw_f hb116).trans ((zsw_f hb124).trans ((zsw_f hb134).trans ((zsw_f hb142).trans ((zsw_f hb154).trans ((zsw_f hb162).trans ((zsw_f hb170).trans ((zsw_f hb180).trans ((zsw_f hb188).trans ((zsw_f hb196).trans ((zsw_f hb208).trans ((zsw_f hb216).trans ((zsw_f hb224).trans ((zsw_f hb232).trans ((zsw_f hb242).trans ((zsw_f hb252).trans ((zsw_f hb264).trans ((zsw_f hb276).trans ((zsw_f hb283).trans ((zsw_f hb289).trans ((zsw_f hb295).trans ((zsw_f hb303).trans ((zsw_f hb309).trans ((zsw_f hb315).trans ((zsw_f hb325).trans ((zsw_f hb337).trans ((zsw_f hb345).trans (zsw_t hb357))))))))))))))))))))))))))))))))))))))))) ?_
                                                                                        refine zGo.sts 5 (cf' := (1367, [some (.ref 202), some (.ref 0), some (.ref 75), some (.int l3)], [.int (l3 + 1), .ref 202, .ref 0], σ)) rfl ?_
                                                                                        obtain ⟨v358, hv, h⟩ := zbd h
                                                                                        refine zG_sd rfl hv ?_
                                                                                        refine zGo.sts 4 (cf' := (1372, [some (.ref 202), some (.ref 0), some (.ref 75), some (.int l3)], [.int (l3 + 2), .ref 202, .int v358, .ref 0], σ)) rfl ?_
                                                                                        obtain ⟨v359, hv, h⟩ := zbd h
                                                                                        refine zG_sd rfl hv ?_
                                                                                        refine zGo.sts 4 (cf' := (1377, [some (.ref 202), some (.ref 0), some (.ref 75), some (.int l3)], [.int (l3 + 3), .ref 202, .int v359, .int v358, .ref 0], σ)) rfl ?_
                                                                                        obtain ⟨v360, hv, h⟩ := zbd h
                                                                                        refine zG_sd rfl hv ?_
                                                                                        obtain ⟨v361, σ362, hv, h⟩ := zbd2 h
                                                                                        refine zGo.call rfl rfl (X_act_g hv) ?_
                                                                                        refine zGo.sts 5 (cf' := (1386, [some (.ref 202), some (.ref 0), some (.ref 75), some (.int l3)], [.int (l3 + 1), .ref 202, .ref 75, .int v361], σ362)) rfl ?_
                                                                                        obtain ⟨v363, hv, h⟩ := zbd h
                                                                                        refine zG_sd rfl hv ?_
                                                                                        refine zGo.sts 4 (cf' := (1391, [some (.ref 202), some (.ref 0), some (.ref 75), some (.int l3)], [.int (l3 + 2), .ref 202, .int v363, .ref 75, .int v361], σ362)) rfl ?_
                                                                                        obtain ⟨v364, hv, h⟩ := zbd h
                                                                                        refine zG_sd rfl hv ?_
                                                                                        refine zGo.sts 4 (cf' := (1396, [some (.ref 202), some (.ref 0), some (.ref 75), some (.int l3)], [.int (l3 + 3), .ref 202, .int v364, .int v363, .ref 75, .int v361], σ362)) rfl ?_
                                                                                        obtain ⟨v365, hv, h⟩ := zbd h
                                                                                        refine zG_sd rfl hv ?_
                                                                                        obtain ⟨v366, σ367, hv, h⟩ := zbd2 h
                                                                                        refine zGo.call rfl rfl (M_act__g hv) ?_
                                                                                        by_cases hb368 : v361 = v366
                                                                                        · replace h := zif_t hb368 h
                                                                                          refine zC_eq_t rfl hb368 ?_
                                                                                          refine zGo.sts 2 (cf' := (18, [some (.ref 202), some (.ref 0), some (.ref 75), some (.int (l3 + 4))], [], σ367)) rfl ?_
                                                                                          exact ih h
                                                                                        · replace h := zif_f hb368 h
                                                                                          refine zC_eq_f rfl hb368 ?_
                                                                                          refine zGo.sts 1 (cf' := (1404, [some (.ref 202), some (.ref 0), some (.ref 75), some (.int l3)], [.int 0], σ367)) rfl ?_
                                                                                          obtain rfl := Option.some.inj h
                                                                                          exact zGo.ret rfl rfl
                                                                                      · replace h := zif_f hb357 h
                                                                                        by_cases hb369 : (v1 &&& 63) = 41
                                                                                        · replace h := zif_t hb369 h
                                                                                          refine zG_sw rfl ((zsw_f hb2).trans ((zsw_f hb10).trans ((zsw_f hb22).trans ((zsw_f hb32).trans ((zsw_f hb42).trans ((zsw_f hb52).trans ((zsw_f hb60).trans ((zsw_f hb68).trans ((zsw_f hb76).trans ((zsw_f hb84).trans ((zsw_f hb92).trans ((zsw_f hb100).trans ((zsw_f hb108).trans ((zsw_f hb116).trans ((zsw_f hb124).trans ((zsw_f hb134).trans ((zsw_f hb142).trans ((zsw_f hb154).trans ((zsw_f hb162).trans ((zsw_f hb170).trans ((zsw_f hb180).trans ((zsw_f hb188).trans ((zsw_f hb196).trans ((zsw_f hb208).trans ((zsw_f hb216).trans ((zsw_f hb224).trans ((zsw_f hb232).trans ((zsw_f hb242).trans ((zsw_f hb252).trans ((zsw_f hb264).trans ((zsw_f hb276).trans ((zsw_f hb283).trans ((zsw_f hb289).trans ((zsw_f hb295).trans ((zsw_f hb303).trans ((zsw_f hb309).trans ((zsw_f hb315).trans ((zsw_f hb325).trans ((zsw_f hb337).trans ((zsw_f hb345).trans ((zsw_f hb357).trans (zsw_t hb369)))))))))))))))))))))))))))))))))))))))))) ?_
                                                                                          refine zGo.sts 5 (cf' := (1410, [some (.ref 202), some (.ref 0), some (.ref 75), some (.int l3)], [.int (l3 + 1), .ref 202, .ref 0], σ)) rfl ?_
                                                                                          obtain ⟨v370, hv, h⟩ := zbd h
                                                                                          refine zG_sd rfl hv ?_
                                                                                          obtain ⟨v371, hv, h⟩ := zbd h
                                                                                          refine zGo.call rfl rfl (X_trace_g hv) ?_
                                                                                          refine zGo.sts 5 (cf' := (1419, [some (.ref 202), some (.ref 0), some (.ref 75), some (.int l3)], [.int (l3 + 1), .ref 202, .ref 75, .int v371], σ)) rfl ?_
                                                                                          obtain ⟨v372, hv, h⟩ := zbd h
                                                                                          refine zG_sd rfl hv ?_
                                                                                          obtain ⟨v373, hv, h⟩ := zbd h
                                                                                          refine zGo.call rfl rfl (M_trace_g hv) ?_
                                                                                          by_cases hb374 : v371 = v373
                                                                                          · replace h := zif_t hb374 h
                                                                                            refine zC_eq_t rfl hb374 ?_
                                                                                            refine zGo.sts 2 (cf' := (18, [some (.ref 202), some (.ref 0), some (.ref 75), some (.int (l3 + 4))], [], σ)) rfl ?_
                                                                                            exact ih h
                                                                                          · replace h := zif_f hb374 h
                                                                                            refine zC_eq_f rfl hb374 ?_
                                                                                            refine zGo.sts 1 (cf' := (1427, [some (.ref 202), some (.ref 0), some (.ref 75), some (.int l3)], [.int 0], σ)) rfl ?_
                                                                                            obtain rfl := Option.some.inj h
                                                                                            exact zGo.ret rfl rfl
                                                                                        · replace h := zif_f hb369 h
                                                                                          by_cases hb375 : (v1 &&& 63) = 42
                                                                                          · replace h := zif_t hb375 h
                                                                                            refine zG_sw rfl ((zsw_f hb2).trans ((zsw_f hb10).trans ((zsw_f hb22).trans ((zsw_f hb32).trans ((zsw_f hb42).trans ((zsw_f hb52).trans ((zsw_f hb60).trans ((zsw_f hb68).trans ((zsw_f hb76).trans ((zsw_f hb84).trans ((zsw_f hb92).trans ((zsw_f hb100).trans ((zsw_f hb108).trans ((zsw_f hb116).trans ((zsw_f hb124).trans ((zsw_f hb134).trans ((zsw_f hb142).trans ((zsw_f hb154).trans ((zsw_f hb162).trans ((zsw_f hb170).trans ((zsw_f hb180).trans ((zsw_f hb188).trans ((zsw_f hb196).trans ((zsw_f hb208).trans ((zsw_f hb216).trans ((zsw_f hb224).trans ((zsw_f hb232).trans ((zsw_f hb242).trans ((zsw_f hb252).trans ((zsw_f hb264).trans ((zsw_f hb276).trans ((zsw_f hb283).trans ((zsw_f hb289).trans ((zsw_f hb295).trans ((zsw_f hb303).trans ((zsw_f hb309).trans ((zsw_f hb315).trans ((zsw_f hb325).trans ((zsw_f hb337).trans ((zsw_f hb345).trans ((zsw_f hb357).trans ((zsw_f hb369).trans (zsw_t hb375))))))))))))))))))))))))))))))))))))))))))) ?_
                                                                                            refine zGo.sts 5 (cf' := (1433, [some (.ref 202), some (.ref 0), some (.ref 75), some (.int l3)], [.int (l3 + 1), .ref 202, .ref 0], σ)) rfl ?_
                                                                                            obtain ⟨v376, hv, h⟩ := zbd h
                                                                                            refine zG_sd rfl hv ?_
                                                                                            refine zGo.sts 4 (cf' := (1438, [some (.ref 202), some (.ref 0), some (.ref 75), some (.int l3)], [.int (l3 + 2), .ref 202, .int v376, .ref 0], σ)) rfl ?_
                                                                                            obtain ⟨v377, hv, h⟩ := zbd h
                                                                                            refine zG_sd rfl hv ?_
                                                                                            obtain ⟨v378, hv, h⟩ := zbd h
                                                                                            refine zGo.call rfl rfl (X_taken_g hv) ?_
                                                                                            refine zGo.sts 5 (cf' := (1447, [some (.ref 202), some (.ref 0), some (.ref 75), some (.int l3)], [.int (l3 + 1), .ref 202, .ref 75, .int v378], σ)) rfl ?_
                                                                                            obtain ⟨v379, hv, h⟩ := zbd h
                                                                                            refine zG_sd rfl hv ?_
                                                                                            refine zGo.sts 4 (cf' := (1452, [some (.ref 202), some (.ref 0), some (.ref 75), some (.int l3)], [.int (l3 + 2), .ref 202, .int v379, .ref 75, .int v378], σ)) rfl ?_
                                                                                            obtain ⟨v380, hv, h⟩ := zbd h
                                                                                            refine zG_sd rfl hv ?_
                                                                                            obtain ⟨v381, hv, h⟩ := zbd h
                                                                                            refine zGo.call rfl rfl (M_taken_g hv) ?_
                                                                                            by_cases hb382 : v378 = v381
                                                                                            · replace h := zif_t hb382 h
                                                                                              refine zC_eq_t rfl hb382 ?_
                                                                                              refine zGo.sts 2 (cf' := (18, [some (.ref 202), some (.ref 0), some (.ref 75), some (.int (l3 + 4))], [], σ)) rfl ?_
                                                                                              exact ih h
                                                                                            · replace h := zif_f hb382 h
                                                                                              refine zC_eq_f rfl hb382 ?_
                                                                                              refine zGo.sts 1 (cf' := (1460, [some (.ref 202), some (.ref 0), some (.ref 75), some (.int l3)], [.int 0], σ)) rfl ?_
                                                                                              obtain rfl := Option.some.inj h
                                                                                              exact zGo.ret rfl rfl
                                                                                          · replace h := zif_f hb375 h
                                                                                            by_cases hb383 : (v1 &&& 63) = 43
                                                                                            · replace h := zif_t hb383 h
                                                                                              refine zG_sw rfl ((zsw_f hb2).trans ((zsw_f hb10).trans ((zsw_f hb22).trans ((zsw_f hb32).trans ((zsw_f hb42).trans ((zsw_f hb52).trans ((zsw_f hb60).trans ((zsw_f hb68).trans ((zsw_f hb76).trans ((zsw_f hb84).trans ((zsw_f hb92).trans ((zsw_f hb100).trans ((zsw_f hb108).trans ((zsw_f hb116).trans ((zsw_f hb124).trans ((zsw_f hb134).trans ((zsw_f hb142).trans ((zsw_f hb154).trans ((zsw_f hb162).trans ((zsw_f hb170).trans ((zsw_f hb180).trans ((zsw_f hb188).trans ((zsw_f hb196).trans ((zsw_f hb208).trans ((zsw_f hb216).trans ((zsw_f hb224).trans ((zsw_f hb232).trans ((zsw_f hb242).trans ((zsw_f hb252).trans ((zsw_f hb264).trans ((zsw_f hb276).trans ((zsw_f hb283).trans ((zsw_f hb289).trans ((zsw_f hb295).trans ((zsw_f hb303).trans ((zsw_f hb309).trans ((zsw_f hb315).trans ((zsw_f hb325).trans ((zsw_f hb337).trans ((zsw_f hb345).trans ((zsw_f hb357).trans ((zsw_f hb369).trans ((zsw_f hb375).trans (zsw_t hb383)))))))))))))))))))))))))))))))))))))))))))) ?_
                                                                                              refine zGo.sts 1 (cf' := (1462, [some (.ref 202), some (.ref 0), some (.ref 75), some (.int l3)], [.ref 0], σ)) rfl ?_
                                                                                              obtain ⟨v384, σ385, hv, h⟩ := zbd2 h
                                                                                              refine zGo.call rfl rfl (X_image_g hv) ?_
                                                                                              refine zGo.sts 1 (cf' := (1466, [some (.ref 202), some (.ref 0), some (.ref 75), some (.int l3)], [.ref 75, .int v384], σ385)) rfl ?_
                                                                                              obtain ⟨v386, σ387, hv, h⟩ := zbd2 h
                                                                                              refine zGo.call rfl rfl (M_image_g hv) ?_
                                                                                              by_cases hb388 : v384 = v386
                                                                                              · replace h := zif_t hb388 h
                                                                                                refine zC_eq_t rfl hb388 ?_
                                                                                                refine zGo.sts 2 (cf' := (18, [some (.ref 202), some (.ref 0), some (.ref 75), some (.int (l3 + 4))], [], σ387)) rfl ?_
                                                                                                exact ih h
                                                                                              · replace h := zif_f hb388 h
                                                                                                refine zC_eq_f rfl hb388 ?_
                                                                                                refine zGo.sts 1 (cf' := (1473, [some (.ref 202), some (.ref 0), some (.ref 75), some (.int l3)], [.int 0], σ387)) rfl ?_
                                                                                                obtain rfl := Option.some.inj h
                                                                                                exact zGo.ret rfl rfl
                                                                                            · replace h := zif_f hb383 h
                                                                                              by_cases hb389 : (v1 &&& 63) = 44
                                                                                              · replace h := zif_t hb389 h
                                                                                                refine zG_sw rfl ((zsw_f hb2).trans ((zsw_f hb10).trans ((zsw_f hb22).trans ((zsw_f hb32).trans ((zsw_f hb42).trans ((zsw_f hb52).trans ((zsw_f hb60).trans ((zsw_f hb68).trans ((zsw_f hb76).trans ((zsw_f hb84).trans ((zsw_f hb92).trans ((zsw_f hb100).trans ((zsw_f hb108).trans ((zsw_f hb116).trans ((zsw_f hb124).trans ((zsw_f hb134).trans ((zsw_f hb142).trans ((zsw_f hb154).trans ((zsw_f hb162).trans ((zsw_f hb170).trans ((zsw_f hb180).trans ((zsw_f hb188).trans ((zsw_f hb196).trans ((zsw_f hb208).trans ((zsw_f hb216).trans ((zsw_f hb224).trans ((zsw_f hb232).trans ((zsw_f hb242).trans ((zsw_f hb252).trans ((zsw_f hb264).trans ((zsw_f hb276).trans ((zsw_f hb283).trans ((zsw_f hb289).trans ((zsw_f hb295).trans ((zsw_f hb303).trans ((zsw_f hb309).trans ((zsw_f hb315).trans ((zsw_f hb325).trans ((zsw_f hb337).trans ((zsw_f hb345).trans ((zsw_f hb357).trans ((zsw_f hb369).trans ((zsw_f hb375).trans ((zsw_f hb383).trans (zsw_t hb389))))))))))))))))))))))))))))))))))))))))))))) ?_
                                                                                                refine zGo.sts 1 (cf' := (1475, [some (.ref 202), some (.ref 0), some (.ref 75), some (.int l3)], [.ref 0], σ)) rfl ?_
                                                                                                obtain ⟨v390, σ391, hv, h⟩ := zbd2 h
                                                                                                refine zGo.call rfl rfl (X_back_g hv) ?_
                                                                                                refine zGo.sts 1 (cf' := (1479, [some (.ref 202), some (.ref 0), some (.ref 75), some (.int l3)], [.ref 75, .int v390], σ391)) rfl ?_
                                                                                                obtain ⟨v392, σ393, hv, h⟩ := zbd2 h
                                                                                                refine zGo.call rfl rfl (M_back_g hv) ?_
                                                                                                by_cases hb394 : v390 = v392
                                                                                                · replace h := zif_t hb394 h
                                                                                                  refine zC_eq_t rfl hb394 ?_
                                                                                                  refine zGo.sts 2 (cf' := (18, [some (.ref 202), some (.ref 0), some (.ref 75), some (.int (l3 + 4))], [], σ393)) rfl ?_
                                                                                                  exact ih h
                                                                                                · replace h := zif_f hb394 h
                                                                                                  refine zC_eq_f rfl hb394 ?_
                                                                                                  refine zGo.sts 1 (cf' := (1486, [some (.ref 202), some (.ref 0), some (.ref 75), some (.int l3)], [.int 0], σ393)) rfl ?_
                                                                                                  obtain rfl := Option.some.inj h
                                                                                                  exact zGo.ret rfl rfl
                                                                                              · replace h := zif_f hb389 h
                                                                                                by_cases hb395 : (v1 &&& 63) = 45
                                                                                                · replace h := zif_t hb395 h
                                                                                                  refine zG_sw rfl ((zsw_f hb2).trans ((zsw_f hb10).trans ((zsw_f hb22).trans ((zsw_f hb32).trans ((zsw_f hb42).trans ((zsw_f hb52).trans ((zsw_f hb60).trans ((zsw_f hb68).trans ((zsw_f hb76).trans ((zsw_f hb84).trans ((zsw_f hb92).trans ((zsw_f hb100).trans ((zsw_f hb108).trans ((zsw_f hb116).trans ((zsw_f hb124).trans ((zsw_f hb134).trans ((zsw_f hb142).trans ((zsw_f hb154).trans ((zsw_f hb162).trans ((zsw_f hb170).trans ((zsw_f hb180).trans ((zsw_f hb188).trans ((zsw_f hb196).trans ((zsw_f hb208).trans ((zsw_f hb216).trans ((zsw_f hb224).trans ((zsw_f hb232).trans ((zsw_f hb242).trans ((zsw_f hb252).trans ((zsw_f hb264).trans ((zsw_f hb276).trans ((zsw_f hb283).trans ((zsw_f hb289).trans ((zsw_f hb295).trans ((zsw_f hb303).trans ((zsw_f hb309).trans ((zsw_f hb315).trans ((zsw_f hb325).trans ((zsw_f hb337).trans ((zsw_f hb345).trans ((zsw_f hb357).trans ((zsw_f hb369).trans ((zsw_f hb375).trans ((zsw_f hb383).trans ((zsw_f hb389).trans (zsw_t hb395)))))))))))))))))))))))))))))))))))))))))))))) ?_
                                                                                                  refine zGo.sts 5 (cf' := (1492, [some (.ref 202), some (.ref 0), some (.ref 75), some (.int l3)], [.int (l3 + 1), .ref 202, .ref 0], σ)) rfl ?_
                                                                                                  obtain ⟨v396, hv, h⟩ := zbd h
                                                                                                  refine zG_sd rfl hv ?_
                                                                                                  obtain ⟨v397, hv, h⟩ := zbd h
                                                                                                  refine zGo.call rfl rfl (X_count_g hv) ?_
                                                                                                  refine zGo.sts 5 (cf' := (1501, [some (.ref 202), some (.ref 0), some (.ref 75), some (.int l3)], [.int (l3 + 1), .ref 202, .ref 75, .int v397], σ)) rfl ?_
                                                                                                  obtain ⟨v398, hv, h⟩ := zbd h
                                                                                                  refine zG_sd rfl hv ?_
                                                                                                  obtain ⟨v399, σ400, hv, h⟩ := zbd2 h
                                                                                                  refine zGo.call rfl rfl (M_count_g hv) ?_
                                                                                                  by_cases hb401 : v397 = v399
                                                                                                  · replace h := zif_t hb401 h
                                                                                                    refine zC_eq_t rfl hb401 ?_
                                                                                                    refine zGo.sts 2 (cf' := (18, [some (.ref 202), some (.ref 0), some (.ref 75), some (.int (l3 + 4))], [], σ400)) rfl ?_
                                                                                                    exact ih h
                                                                                                  · replace h := zif_f hb401 h
                                                                                                    refine zC_eq_f rfl hb401 ?_
                                                                                                    refine zGo.sts 1 (cf' := (1509, [some (.ref 202), some (.ref 0), some (.ref 75), some (.int l3)], [.int 0], σ400)) rfl ?_
                                                                                                    obtain rfl := Option.some.inj h
                                                                                                    exact zGo.ret rfl rfl
                                                                                                · replace h := zif_f hb395 h
                                                                                                  refine zG_sw rfl ((zsw_f hb2).trans ((zsw_f hb10).trans ((zsw_f hb22).trans ((zsw_f hb32).trans ((zsw_f hb42).trans ((zsw_f hb52).trans ((zsw_f hb60).trans ((zsw_f hb68).trans ((zsw_f hb76).trans ((zsw_f hb84).trans ((zsw_f hb92).trans ((zsw_f hb100).trans ((zsw_f hb108).trans ((zsw_f hb116).trans ((zsw_f hb124).trans ((zsw_f hb134).trans ((zsw_f hb142).trans ((zsw_f hb154).trans ((zsw_f hb162).trans ((zsw_f hb170).trans ((zsw_f hb180).trans ((zsw_f hb188).trans ((zsw_f hb196).trans ((zsw_f hb208).trans ((zsw_f hb216).trans ((zsw_f hb224).trans ((zsw_f hb232).trans ((zsw_f hb242).trans ((zsw_f hb252).trans ((zsw_f hb264).trans ((zsw_f hb276).trans ((zsw_f hb283).trans ((zsw_f hb289).trans ((zsw_f hb295).trans ((zsw_f hb303).trans ((zsw_f hb309).trans ((zsw_f hb315).trans ((zsw_f hb325).trans ((zsw_f hb337).trans ((zsw_f hb345).trans ((zsw_f hb357).trans ((zsw_f hb369).trans ((zsw_f hb375).trans ((zsw_f hb383).trans ((zsw_f hb389).trans ((zsw_f hb395).trans rfl)))))))))))))))))))))))))))))))))))))))))))))) ?_
                                                                                                  refine zGo.sts 2 (cf' := (18, [some (.ref 202), some (.ref 0), some (.ref 75), some (.int (l3 + 4))], [], σ)) rfl ?_
                                                                                                  exact ih h
