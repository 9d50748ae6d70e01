/-! code, 22 -/
theorem c_307_2190 : Snd 307 2190 (i_aload 2 2191) := s_aload_n (by decide +kernel : decode code 2190 = .ok (.aload_n 2, 1)) rfl rfl
theorem c_307_2191 : Snd 307 2191 (i_call 209 0 9) := s_call (c := 9) (nm := "SmokeRelayModel") (by decide +kernel : decode code 2191 = .ok (.invokevirtual 179, 3)) ok_209 rfl (Or.inl rfl) rfl w_1369 w_1370 w_1371
theorem c_307_2194 : Snd 307 2194 (i_iload 6 2196) := s_iload (by decide +kernel : decode code 2194 = .ok (.iload 6, 2)) rfl
theorem c_307_2196 : Snd 307 2196 (i_icmp (fun a b => a = b) (fun _ _ => inferInstance) 2201 2199) := s_icmpeq (by decide +kernel : decode code 2196 = .ok (.if_icmp .eq 5, 3)) (by decide +kernel) rfl
theorem c_307_2199 : Snd 307 2199 (i_push (aI 0) 2200) := s_iconst (by decide +kernel : decode code 2199 = .ok (.iconst 0, 1)) (by decide) rfl
theorem c_307_2200 : Snd 307 2200 (i_iret am_okZ) := s_iret (ty := .boolean) (by decide +kernel : decode code 2200 = .ok (.ireturn, 1)) rfl am_okZ_n
theorem c_307_2201 : Snd 307 2201 (i_iload 6 2203) := s_iload (by decide +kernel : decode code 2201 = .ok (.iload 6, 2)) rfl
theorem c_307_2203 : Snd 307 2203 (i_if (fun a => a ≠ 0) (fun _ => inferInstance) 2218 2206) := s_ifne (by decide +kernel : decode code 2203 = .ok (.ifCond .ne 15, 3)) (by decide +kernel) rfl
theorem c_307_2206 : Snd 307 2206 (i_aload 3 2207) := s_aload_n (by decide +kernel : decode code 2206 = .ok (.aload_n 3, 1)) rfl rfl
theorem c_307_2207 : Snd 307 2207 (i_push (aI 0) 2208) := s_iconst (by decide +kernel : decode code 2207 = .ok (.iconst 0, 1)) (by decide) rfl
theorem c_307_2208 : Snd 307 2208 (i_lald 2209) := s_lald (by decide +kernel : decode code 2208 = .ok (.laload, 1)) rfl
theorem c_307_2209 : Snd 307 2209 (i_iload 7 2211) := s_iload (by decide +kernel : decode code 2209 = .ok (.iload 7, 2)) rfl
theorem c_307_2211 : Snd 307 2211 (i_i2l 2212) := s_i2l (by decide +kernel : decode code 2211 = .ok (.i2l, 1)) rfl
theorem c_307_2212 : Snd 307 2212 (i_lcmp 2213) := s_lcmp (by decide +kernel : decode code 2212 = .ok (.lcmp, 1)) rfl
theorem c_307_2213 : Snd 307 2213 (i_if (fun a => a = 0) (fun _ => inferInstance) 2218 2216) := s_ifeq (by decide +kernel : decode code 2213 = .ok (.ifCond .eq 5, 3)) (by decide +kernel) rfl
theorem c_307_2216 : Snd 307 2216 (i_push (aI 0) 2217) := s_iconst (by decide +kernel : decode code 2216 = .ok (.iconst 0, 1)) (by decide) rfl
theorem c_307_2217 : Snd 307 2217 (i_iret am_okZ) := s_iret (ty := .boolean) (by decide +kernel : decode code 2217 = .ok (.ireturn, 1)) rfl am_okZ_n
theorem c_307_2218 : Snd 307 2218 (i_goto 3145) := s_goto (by decide +kernel : decode code 2218 = .ok (.goto 927, 3)) (by decide +kernel)
theorem c_307_2221 : Snd 307 2221 (i_aload 1 2222) := s_aload_n (by decide +kernel : decode code 2221 = .ok (.aload_n 1, 1)) rfl rfl
theorem c_307_2222 : Snd 307 2222 (i_aload 0 2223) := s_aload_n (by decide +kernel : decode code 2222 = .ok (.aload_n 0, 1)) rfl rfl
theorem c_307_2223 : Snd 307 2223 (i_iload 5 2225) := s_iload (by decide +kernel : decode code 2223 = .ok (.iload 5, 2)) rfl
theorem c_307_2225 : Snd 307 2225 (i_push (aI 1) 2226) := s_iconst (by decide +kernel : decode code 2225 = .ok (.iconst 1, 1)) (by decide) rfl
theorem c_307_2226 : Snd 307 2226 (i_bin (fun a b => a + b) 2227) := s_iadd (by decide +kernel : decode code 2226 = .ok (.iadd, 1)) rfl
theorem c_307_2227 : Snd 307 2227 (i_iald 2228) := s_iald (by decide +kernel : decode code 2227 = .ok (.iaload, 1)) rfl
theorem c_307_2228 : Snd 307 2228 (i_aload 0 2229) := s_aload_n (by decide +kernel : decode code 2228 = .ok (.aload_n 0, 1)) rfl rfl
theorem c_307_2229 : Snd 307 2229 (i_iload 5 2231) := s_iload (by decide +kernel : decode code 2229 = .ok (.iload 5, 2)) rfl
theorem c_307_2231 : Snd 307 2231 (i_push (aI 2) 2232) := s_iconst (by decide +kernel : decode code 2231 = .ok (.iconst 2, 1)) (by decide) rfl
theorem c_307_2232 : Snd 307 2232 (i_bin (fun a b => a + b) 2233) := s_iadd (by decide +kernel : decode code 2232 = .ok (.iadd, 1)) rfl
theorem c_307_2233 : Snd 307 2233 (i_iald 2234) := s_iald (by decide +kernel : decode code 2233 = .ok (.iaload, 1)) rfl
theorem c_307_2234 : Snd 307 2234 (i_aload 3 2235) := s_aload_n (by decide +kernel : decode code 2234 = .ok (.aload_n 3, 1)) rfl rfl
theorem c_307_2235 : Snd 307 2235 (i_calls 143 4) := s_callsX (by decide +kernel : decode code 2235 = .ok (.invokestatic 291, 3)) ok_143 rfl w_992 w_993
theorem c_307_2238 : Snd 307 2238 (i_store 6 2240) := s_istore (by decide +kernel : decode code 2238 = .ok (.istore 6, 2)) ⟨Or.inr (by decide +kernel), by decide +kernel⟩ rfl
theorem c_307_2240 : Snd 307 2240 (i_aload 2 2241) := s_aload_n (by decide +kernel : decode code 2240 = .ok (.aload_n 2, 1)) rfl rfl
theorem c_307_2241 : Snd 307 2241 (i_aload 0 2242) := s_aload_n (by decide +kernel : decode code 2241 = .ok (.aload_n 0, 1)) rfl rfl
theorem c_307_2242 : Snd 307 2242 (i_iload 5 2244) := s_iload (by decide +kernel : decode code 2242 = .ok (.iload 5, 2)) rfl
theorem c_307_2244 : Snd 307 2244 (i_push (aI 1) 2245) := s_iconst (by decide +kernel : decode code 2244 = .ok (.iconst 1, 1)) (by decide) rfl
theorem c_307_2245 : Snd 307 2245 (i_bin (fun a b => a + b) 2246) := s_iadd (by decide +kernel : decode code 2245 = .ok (.iadd, 1)) rfl
theorem c_307_2246 : Snd 307 2246 (i_iald 2247) := s_iald (by decide +kernel : decode code 2246 = .ok (.iaload, 1)) rfl
theorem c_307_2247 : Snd 307 2247 (i_aload 0 2248) := s_aload_n (by decide +kernel : decode code 2247 = .ok (.aload_n 0, 1)) rfl rfl
theorem c_307_2248 : Snd 307 2248 (i_iload 5 2250) := s_iload (by decide +kernel : decode code 2248 = .ok (.iload 5, 2)) rfl
theorem c_307_2250 : Snd 307 2250 (i_push (aI 2) 2251) := s_iconst (by decide +kernel : decode code 2250 = .ok (.iconst 2, 1)) (by decide) rfl
theorem c_307_2251 : Snd 307 2251 (i_bin (fun a b => a + b) 2252) := s_iadd (by decide +kernel : decode code 2251 = .ok (.iadd, 1)) rfl
theorem c_307_2252 : Snd 307 2252 (i_iald 2253) := s_iald (by decide +kernel : decode code 2252 = .ok (.iaload, 1)) rfl
theorem c_307_2253 : Snd 307 2253 (i_call 276 2 9) := s_call (c := 9) (nm := "SmokeRelayModel") (by decide +kernel : decode code 2253 = .ok (.invokevirtual 293, 3)) ok_276 rfl (Or.inl rfl) rfl w_1639 w_1640 w_1641
theorem c_307_2256 : Snd 307 2256 (i_store 7 2258) := s_istore (by decide +kernel : decode code 2256 = .ok (.istore 7, 2)) ⟨Or.inr (by decide +kernel), by decide +kernel⟩ rfl
theorem c_307_2258 : Snd 307 2258 (i_aload 2 2259) := s_aload_n (by decide +kernel : decode code 2258 = .ok (.aload_n 2, 1)) rfl rfl
theorem c_307_2259 : Snd 307 2259 (i_call 209 0 9) := s_call (c := 9) (nm := "SmokeRelayModel") (by decide +kernel : decode code 2259 = .ok (.invokevirtual 179, 3)) ok_209 rfl (Or.inl rfl) rfl w_1369 w_1370 w_1371
theorem c_307_2262 : Snd 307 2262 (i_iload 6 2264) := s_iload (by decide +kernel : decode code 2262 = .ok (.iload 6, 2)) rfl
theorem c_307_2264 : Snd 307 2264 (i_icmp (fun a b => a = b) (fun _ _ => inferInstance) 2269 2267) := s_icmpeq (by decide +kernel : decode code 2264 = .ok (.if_icmp .eq 5, 3)) (by decide +kernel) rfl
theorem c_307_2267 : Snd 307 2267 (i_push (aI 0) 2268) := s_iconst (by decide +kernel : decode code 2267 = .ok (.iconst 0, 1)) (by decide) rfl
theorem c_307_2268 : Snd 307 2268 (i_iret am_okZ) := s_iret (ty := .boolean) (by decide +kernel : decode code 2268 = .ok (.ireturn, 1)) rfl am_okZ_n
theorem c_307_2269 : Snd 307 2269 (i_iload 6 2271) := s_iload (by decide +kernel : decode code 2269 = .ok (.iload 6, 2)) rfl
theorem c_307_2271 : Snd 307 2271 (i_if (fun a => a ≠ 0) (fun _ => inferInstance) 2286 2274) := s_ifne (by decide +kernel : decode code 2271 = .ok (.ifCond .ne 15, 3)) (by decide +kernel) rfl
theorem c_307_2274 : Snd 307 2274 (i_aload 3 2275) := s_aload_n (by decide +kernel : decode code 2274 = .ok (.aload_n 3, 1)) rfl rfl
theorem c_307_2275 : Snd 307 2275 (i_push (aI 0) 2276) := s_iconst (by decide +kernel : decode code 2275 = .ok (.iconst 0, 1)) (by decide) rfl
theorem c_307_2276 : Snd 307 2276 (i_lald 2277) := s_lald (by decide +kernel : decode code 2276 = .ok (.laload, 1)) rfl
theorem c_307_2277 : Snd 307 2277 (i_iload 7 2279) := s_iload (by decide +kernel : decode code 2277 = .ok (.iload 7, 2)) rfl
theorem c_307_2279 : Snd 307 2279 (i_i2l 2280) := s_i2l (by decide +kernel : decode code 2279 = .ok (.i2l, 1)) rfl
theorem c_307_2280 : Snd 307 2280 (i_lcmp 2281) := s_lcmp (by decide +kernel : decode code 2280 = .ok (.lcmp, 1)) rfl
theorem c_307_2281 : Snd 307 2281 (i_if (fun a => a = 0) (fun _ => inferInstance) 2286 2284) := s_ifeq (by decide +kernel : decode code 2281 = .ok (.ifCond .eq 5, 3)) (by decide +kernel) rfl
theorem c_307_2284 : Snd 307 2284 (i_push (aI 0) 2285) := s_iconst (by decide +kernel : decode code 2284 = .ok (.iconst 0, 1)) (by decide) rfl
theorem c_307_2285 : Snd 307 2285 (i_iret am_okZ) := s_iret (ty := .boolean) (by decide +kernel : decode code 2285 = .ok (.ireturn, 1)) rfl am_okZ_n
theorem c_307_2286 : Snd 307 2286 (i_goto 3145) := s_goto (by decide +kernel : decode code 2286 = .ok (.goto 859, 3)) (by decide +kernel)
theorem c_307_2289 : Snd 307 2289 (i_aload 1 2290) := s_aload_n (by decide +kernel : decode code 2289 = .ok (.aload_n 1, 1)) rfl rfl
theorem c_307_2290 : Snd 307 2290 (i_aload 0 2291) := s_aload_n (by decide +kernel : decode code 2290 = .ok (.aload_n 0, 1)) rfl rfl
theorem c_307_2291 : Snd 307 2291 (i_iload 5 2293) := s_iload (by decide +kernel : decode code 2291 = .ok (.iload 5, 2)) rfl
theorem c_307_2293 : Snd 307 2293 (i_push (aI 1) 2294) := s_iconst (by decide +kernel : decode code 2293 = .ok (.iconst 1, 1)) (by decide) rfl
theorem c_307_2294 : Snd 307 2294 (i_bin (fun a b => a + b) 2295) := s_iadd (by decide +kernel : decode code 2294 = .ok (.iadd, 1)) rfl
theorem c_307_2295 : Snd 307 2295 (i_iald 2296) := s_iald (by decide +kernel : decode code 2295 = .ok (.iaload, 1)) rfl
theorem c_307_2296 : Snd 307 2296 (i_un (fun a => (a.toUInt32 % 65536).toInt32) 2297) := s_i2c (by decide +kernel : decode code 2296 = .ok (.i2c, 1)) rfl
theorem c_307_2297 : Snd 307 2297 (i_aload 3 2298) := s_aload_n (by decide +kernel : decode code 2297 = .ok (.aload_n 3, 1)) rfl rfl
theorem c_307_2298 : Snd 307 2298 (i_calls 146 3) := s_callsX (by decide +kernel : decode code 2298 = .ok (.invokestatic 294, 3)) ok_146 rfl w_1004 w_1005
theorem c_307_2301 : Snd 307 2301 (i_store 6 2303) := s_istore (by decide +kernel : decode code 2301 = .ok (.istore 6, 2)) ⟨Or.inr (by decide +kernel), by decide +kernel⟩ rfl
theorem c_307_2303 : Snd 307 2303 (i_aload 2 2304) := s_aload_n (by decide +kernel : decode code 2303 = .ok (.aload_n 2, 1)) rfl rfl
theorem c_307_2304 : Snd 307 2304 (i_aload 0 2305) := s_aload_n (by decide +kernel : decode code 2304 = .ok (.aload_n 0, 1)) rfl rfl
theorem c_307_2305 : Snd 307 2305 (i_iload 5 2307) := s_iload (by decide +kernel : decode code 2305 = .ok (.iload 5, 2)) rfl
theorem c_307_2307 : Snd 307 2307 (i_push (aI 1) 2308) := s_iconst (by decide +kernel : decode code 2307 = .ok (.iconst 1, 1)) (by decide) rfl
theorem c_307_2308 : Snd 307 2308 (i_bin (fun a b => a + b) 2309) := s_iadd (by decide +kernel : decode code 2308 = .ok (.iadd, 1)) rfl
theorem c_307_2309 : Snd 307 2309 (i_iald 2310) := s_iald (by decide +kernel : decode code 2309 = .ok (.iaload, 1)) rfl
theorem c_307_2310 : Snd 307 2310 (i_un (fun a => (a.toUInt32 % 65536).toInt32) 2311) := s_i2c (by decide +kernel : decode code 2310 = .ok (.i2c, 1)) rfl
theorem c_307_2311 : Snd 307 2311 (i_call 277 1 9) := s_call (c := 9) (nm := "SmokeRelayModel") (by decide +kernel : decode code 2311 = .ok (.invokevirtual 296, 3)) ok_277 rfl (Or.inl rfl) rfl w_1643 w_1644 w_1645
theorem c_307_2314 : Snd 307 2314 (i_store 7 2316) := s_istore (by decide +kernel : decode code 2314 = .ok (.istore 7, 2)) ⟨Or.inr (by decide +kernel), by decide +kernel⟩ rfl
theorem c_307_2316 : Snd 307 2316 (i_aload 2 2317) := s_aload_n (by decide +kernel : decode code 2316 = .ok (.aload_n 2, 1)) rfl rfl
theorem c_307_2317 : Snd 307 2317 (i_call 209 0 9) := s_call (c := 9) (nm := "SmokeRelayModel") (by decide +kernel : decode code 2317 = .ok (.invokevirtual 179, 3)) ok_209 rfl (Or.inl rfl) rfl w_1369 w_1370 w_1371
theorem c_307_2320 : Snd 307 2320 (i_iload 6 2322) := s_iload (by decide +kernel : decode code 2320 = .ok (.iload 6, 2)) rfl
theorem c_307_2322 : Snd 307 2322 (i_icmp (fun a b => a = b) (fun _ _ => inferInstance) 2327 2325) := s_icmpeq (by decide +kernel : decode code 2322 = .ok (.if_icmp .eq 5, 3)) (by decide +kernel) rfl
theorem c_307_2325 : Snd 307 2325 (i_push (aI 0) 2326) := s_iconst (by decide +kernel : decode code 2325 = .ok (.iconst 0, 1)) (by decide) rfl
theorem c_307_2326 : Snd 307 2326 (i_iret am_okZ) := s_iret (ty := .boolean) (by decide +kernel : decode code 2326 = .ok (.ireturn, 1)) rfl am_okZ_n
theorem c_307_2327 : Snd 307 2327 (i_iload 6 2329) := s_iload (by decide +kernel : decode code 2327 = .ok (.iload 6, 2)) rfl
theorem c_307_2329 : Snd 307 2329 (i_if (fun a => a ≠ 0) (fun _ => inferInstance) 2344 2332) := s_ifne (by decide +kernel : decode code 2329 = .ok (.ifCond .ne 15, 3)) (by decide +kernel) rfl
theorem c_307_2332 : Snd 307 2332 (i_aload 3 2333) := s_aload_n (by decide +kernel : decode code 2332 = .ok (.aload_n 3, 1)) rfl rfl
theorem c_307_2333 : Snd 307 2333 (i_push (aI 0) 2334) := s_iconst (by decide +kernel : decode code 2333 = .ok (.iconst 0, 1)) (by decide) rfl
theorem c_307_2334 : Snd 307 2334 (i_lald 2335) := s_lald (by decide +kernel : decode code 2334 = .ok (.laload, 1)) rfl
theorem c_307_2335 : Snd 307 2335 (i_iload 7 2337) := s_iload (by decide +kernel : decode code 2335 = .ok (.iload 7, 2)) rfl
theorem c_307_2337 : Snd 307 2337 (i_i2l 2338) := s_i2l (by decide +kernel : decode code 2337 = .ok (.i2l, 1)) rfl
theorem c_307_2338 : Snd 307 2338 (i_lcmp 2339) := s_lcmp (by decide +kernel : decode code 2338 = .ok (.lcmp, 1)) rfl
theorem c_307_2339 : Snd 307 2339 (i_if (fun a => a = 0) (fun _ => inferInstance) 2344 2342) := s_ifeq (by decide +kernel : decode code 2339 = .ok (.ifCond .eq 5, 3)) (by decide +kernel) rfl
theorem c_307_2342 : Snd 307 2342 (i_push (aI 0) 2343) := s_iconst (by decide +kernel : decode code 2342 = .ok (.iconst 0, 1)) (by decide) rfl
theorem c_307_2343 : Snd 307 2343 (i_iret am_okZ) := s_iret (ty := .boolean) (by decide +kernel : decode code 2343 = .ok (.ireturn, 1)) rfl am_okZ_n
theorem c_307_2344 : Snd 307 2344 (i_goto 3145) := s_goto (by decide +kernel : decode code 2344 = .ok (.goto 801, 3)) (by decide +kernel)
theorem c_307_2347 : Snd 307 2347 (i_aload 1 2348) := s_aload_n (by decide +kernel : decode code 2347 = .ok (.aload_n 1, 1)) rfl rfl
theorem c_307_2348 : Snd 307 2348 (i_call 32 0 0) := s_call (c := 0) (nm := "SmokeRelay") (by decide +kernel : decode code 2348 = .ok (.invokevirtual 297, 3)) ok_32 rfl (Or.inl rfl) rfl w_397 w_398 w_399
theorem c_307_2351 : Snd 307 2351 (i_aload 2 2352) := s_aload_n (by decide +kernel : decode code 2351 = .ok (.aload_n 2, 1)) rfl rfl
theorem c_307_2352 : Snd 307 2352 (i_call 278 0 9) := s_call (c := 9) (nm := "SmokeRelayModel") (by decide +kernel : decode code 2352 = .ok (.invokevirtual 300, 3)) ok_278 rfl (Or.inl rfl) rfl w_1647 w_1648 w_1649
theorem c_307_2355 : Snd 307 2355 (i_icmp (fun a b => a = b) (fun _ _ => inferInstance) 3145 2358) := s_icmpeq (by decide +kernel : decode code 2355 = .ok (.if_icmp .eq 790, 3)) (by decide +kernel) rfl
theorem c_307_2358 : Snd 307 2358 (i_push (aI 0) 2359) := s_iconst (by decide +kernel : decode code 2358 = .ok (.iconst 0, 1)) (by decide) rfl
theorem c_307_2359 : Snd 307 2359 (i_iret am_okZ) := s_iret (ty := .boolean) (by decide +kernel : decode code 2359 = .ok (.ireturn, 1)) rfl am_okZ_n
theorem c_307_2360 : Snd 307 2360 (i_aload 1 2361) := s_aload_n (by decide +kernel : decode code 2360 = .ok (.aload_n 1, 1)) rfl rfl
theorem c_307_2361 : Snd 307 2361 (i_call 37 0 0) := s_call (c := 0) (nm := "SmokeRelay") (by decide +kernel : decode code 2361 = .ok (.invokevirtual 301, 3)) ok_37 rfl (Or.inl rfl) rfl w_417 w_418 w_419
theorem c_307_2364 : Snd 307 2364 (i_aload 2 2365) := s_aload_n (by decide +kernel : decode code 2364 = .ok (.aload_n 2, 1)) rfl rfl
theorem c_307_2365 : Snd 307 2365 (i_call 280 0 9) := s_call (c := 9) (nm := "SmokeRelayModel") (by decide +kernel : decode code 2365 = .ok (.invokevirtual 304, 3)) ok_280 rfl (Or.inl rfl) rfl w_1655 w_1656 w_1657
theorem c_307_2368 : Snd 307 2368 (i_icmp (fun a b => a = b) (fun _ _ => inferInstance) 3145 2371) := s_icmpeq (by decide +kernel : decode code 2368 = .ok (.if_icmp .eq 777, 3)) (by decide +kernel) rfl
theorem c_307_2371 : Snd 307 2371 (i_push (aI 0) 2372) := s_iconst (by decide +kernel : decode code 2371 = .ok (.iconst 0, 1)) (by decide) rfl
theorem c_307_2372 : Snd 307 2372 (i_iret am_okZ) := s_iret (ty := .boolean) (by decide +kernel : decode code 2372 = .ok (.ireturn, 1)) rfl am_okZ_n
theorem c_307_2373 : Snd 307 2373 (i_aload 1 2374) := s_aload_n (by decide +kernel : decode code 2373 = .ok (.aload_n 1, 1)) rfl rfl
theorem c_307_2374 : Snd 307 2374 (i_aload 3 2375) := s_aload_n (by decide +kernel : decode code 2374 = .ok (.aload_n 3, 1)) rfl rfl
theorem c_307_2375 : Snd 307 2375 (i_calls 148 2) := s_callsX (by decide +kernel : decode code 2375 = .ok (.invokestatic 305, 3)) ok_148 rfl w_1011 w_1012
theorem c_307_2378 : Snd 307 2378 (i_store 6 2380) := s_istore (by decide +kernel : decode code 2378 = .ok (.istore 6, 2)) ⟨Or.inr (by decide +kernel), by decide +kernel⟩ rfl
theorem c_307_2380 : Snd 307 2380 (i_aload 2 2381) := s_aload_n (by decide +kernel : decode code 2380 = .ok (.aload_n 2, 1)) rfl rfl
theorem c_307_2381 : Snd 307 2381 (i_call 281 0 9) := s_call (c := 9) (nm := "SmokeRelayModel") (by decide +kernel : decode code 2381 = .ok (.invokevirtual 308, 3)) ok_281 rfl (Or.inl rfl) rfl w_1660 w_1661 w_1662
theorem c_307_2384 : Snd 307 2384 (i_store 7 2386) := s_istore (by decide +kernel : decode code 2384 = .ok (.istore 7, 2)) ⟨Or.inr (by decide +kernel), by decide +kernel⟩ rfl
theorem c_307_2386 : Snd 307 2386 (i_aload 2 2387) := s_aload_n (by decide +kernel : decode code 2386 = .ok (.aload_n 2, 1)) rfl rfl
theorem c_307_2387 : Snd 307 2387 (i_call 209 0 9) := s_call (c := 9) (nm := "SmokeRelayModel") (by decide +kernel : decode code 2387 = .ok (.invokevirtual 179, 3)) ok_209 rfl (Or.inl rfl) rfl w_1369 w_1370 w_1371
theorem c_307_2390 : Snd 307 2390 (i_iload 6 2392) := s_iload (by decide +kernel : decode code 2390 = .ok (.iload 6, 2)) rfl
theorem c_307_2392 : Snd 307 2392 (i_icmp (fun a b => a = b) (fun _ _ => inferInstance) 2397 2395) := s_icmpeq (by decide +kernel : decode code 2392 = .ok (.if_icmp .eq 5, 3)) (by decide +kernel) rfl
theorem c_307_2395 : Snd 307 2395 (i_push (aI 0) 2396) := s_iconst (by decide +kernel : decode code 2395 = .ok (.iconst 0, 1)) (by decide) rfl
theorem c_307_2396 : Snd 307 2396 (i_iret am_okZ) := s_iret (ty := .boolean) (by decide +kernel : decode code 2396 = .ok (.ireturn, 1)) rfl am_okZ_n
theorem c_307_2397 : Snd 307 2397 (i_iload 6 2399) := s_iload (by decide +kernel : decode code 2397 = .ok (.iload 6, 2)) rfl
theorem c_307_2399 : Snd 307 2399 (i_if (fun a => a ≠ 0) (fun _ => inferInstance) 2414 2402) := s_ifne (by decide +kernel : decode code 2399 = .ok (.ifCond .ne 15, 3)) (by decide +kernel) rfl
theorem c_307_2402 : Snd 307 2402 (i_aload 3 2403) := s_aload_n (by decide +kernel : decode code 2402 = .ok (.aload_n 3, 1)) rfl rfl
theorem c_307_2403 : Snd 307 2403 (i_push (aI 0) 2404) := s_iconst (by decide +kernel : decode code 2403 = .ok (.iconst 0, 1)) (by decide) rfl
theorem c_307_2404 : Snd 307 2404 (i_lald 2405) := s_lald (by decide +kernel : decode code 2404 = .ok (.laload, 1)) rfl
theorem c_307_2405 : Snd 307 2405 (i_iload 7 2407) := s_iload (by decide +kernel : decode code 2405 = .ok (.iload 7, 2)) rfl
theorem c_307_2407 : Snd 307 2407 (i_i2l 2408) := s_i2l (by decide +kernel : decode code 2407 = .ok (.i2l, 1)) rfl
theorem c_307_2408 : Snd 307 2408 (i_lcmp 2409) := s_lcmp (by decide +kernel : decode code 2408 = .ok (.lcmp, 1)) rfl
theorem c_307_2409 : Snd 307 2409 (i_if (fun a => a = 0) (fun _ => inferInstance) 2414 2412) := s_ifeq (by decide +kernel : decode code 2409 = .ok (.ifCond .eq 5, 3)) (by decide +kernel) rfl
theorem c_307_2412 : Snd 307 2412 (i_push (aI 0) 2413) := s_iconst (by decide +kernel : decode code 2412 = .ok (.iconst 0, 1)) (by decide) rfl
theorem c_307_2413 : Snd 307 2413 (i_iret am_okZ) := s_iret (ty := .boolean) (by decide +kernel : decode code 2413 = .ok (.ireturn, 1)) rfl am_okZ_n
theorem c_307_2414 : Snd 307 2414 (i_goto 3145) := s_goto (by decide +kernel : decode code 2414 = .ok (.goto 731, 3)) (by decide +kernel)
theorem c_307_2417 : Snd 307 2417 (i_aload 1 2418) := s_aload_n (by decide +kernel : decode code 2417 = .ok (.aload_n 1, 1)) rfl rfl
theorem c_307_2418 : Snd 307 2418 (i_aload 3 2419) := s_aload_n (by decide +kernel : decode code 2418 = .ok (.aload_n 3, 1)) rfl rfl
theorem c_307_2419 : Snd 307 2419 (i_calls 150 2) := s_callsX (by decide +kernel : decode code 2419 = .ok (.invokestatic 309, 3)) ok_150 rfl w_1019 w_1020
theorem c_307_2422 : Snd 307 2422 (i_store 6 2424) := s_istore (by decide +kernel : decode code 2422 = .ok (.istore 6, 2)) ⟨Or.inr (by decide +kernel), by decide +kernel⟩ rfl
theorem c_307_2424 : Snd 307 2424 (i_aload 2 2425) := s_aload_n (by decide +kernel : decode code 2424 = .ok (.aload_n 2, 1)) rfl rfl
theorem c_307_2425 : Snd 307 2425 (i_call 282 0 9) := s_call (c := 9) (nm := "SmokeRelayModel") (by decide +kernel : decode code 2425 = .ok (.invokevirtual 311, 3)) ok_282 rfl (Or.inl rfl) rfl w_1664 w_1665 w_1666
theorem c_307_2428 : Snd 307 2428 (i_store 7 2430) := s_istore (by decide +kernel : decode code 2428 = .ok (.istore 7, 2)) ⟨Or.inr (by decide +kernel), by decide +kernel⟩ rfl
theorem c_307_2430 : Snd 307 2430 (i_aload 2 2431) := s_aload_n (by decide +kernel : decode code 2430 = .ok (.aload_n 2, 1)) rfl rfl
theorem c_307_2431 : Snd 307 2431 (i_call 209 0 9) := s_call (c := 9) (nm := "SmokeRelayModel") (by decide +kernel : decode code 2431 = .ok (.invokevirtual 179, 3)) ok_209 rfl (Or.inl rfl) rfl w_1369 w_1370 w_1371
theorem c_307_2434 : Snd 307 2434 (i_iload 6 2436) := s_iload (by decide +kernel : decode code 2434 = .ok (.iload 6, 2)) rfl
theorem c_307_2436 : Snd 307 2436 (i_icmp (fun a b => a = b) (fun _ _ => inferInstance) 2441 2439) := s_icmpeq (by decide +kernel : decode code 2436 = .ok (.if_icmp .eq 5, 3)) (by decide +kernel) rfl
theorem c_307_2439 : Snd 307 2439 (i_push (aI 0) 2440) := s_iconst (by decide +kernel : decode code 2439 = .ok (.iconst 0, 1)) (by decide) rfl
theorem c_307_2440 : Snd 307 2440 (i_iret am_okZ) := s_iret (ty := .boolean) (by decide +kernel : decode code 2440 = .ok (.ireturn, 1)) rfl am_okZ_n
theorem c_307_2441 : Snd 307 2441 (i_iload 6 2443) := s_iload (by decide +kernel : decode code 2441 = .ok (.iload 6, 2)) rfl
theorem c_307_2443 : Snd 307 2443 (i_if (fun a => a ≠ 0) (fun _ => inferInstance) 2458 2446) := s_ifne (by decide +kernel : decode code 2443 = .ok (.ifCond .ne 15, 3)) (by decide +kernel) rfl
theorem c_307_2446 : Snd 307 2446 (i_aload 3 2447) := s_aload_n (by decide +kernel : decode code 2446 = .ok (.aload_n 3, 1)) rfl rfl
theorem c_307_2447 : Snd 307 2447 (i_push (aI 0) 2448) := s_iconst (by decide +kernel : decode code 2447 = .ok (.iconst 0, 1)) (by decide) rfl
theorem c_307_2448 : Snd 307 2448 (i_lald 2449) := s_lald (by decide +kernel : decode code 2448 = .ok (.laload, 1)) rfl
theorem c_307_2449 : Snd 307 2449 (i_iload 7 2451) := s_iload (by decide +kernel : decode code 2449 = .ok (.iload 7, 2)) rfl
theorem c_307_2451 : Snd 307 2451 (i_i2l 2452) := s_i2l (by decide +kernel : decode code 2451 = .ok (.i2l, 1)) rfl
theorem c_307_2452 : Snd 307 2452 (i_lcmp 2453) := s_lcmp (by decide +kernel : decode code 2452 = .ok (.lcmp, 1)) rfl
theorem c_307_2453 : Snd 307 2453 (i_if (fun a => a = 0) (fun _ => inferInstance) 2458 2456) := s_ifeq (by decide +kernel : decode code 2453 = .ok (.ifCond .eq 5, 3)) (by decide +kernel) rfl
theorem c_307_2456 : Snd 307 2456 (i_push (aI 0) 2457) := s_iconst (by decide +kernel : decode code 2456 = .ok (.iconst 0, 1)) (by decide) rfl
theorem c_307_2457 : Snd 307 2457 (i_iret am_okZ) := s_iret (ty := .boolean) (by decide +kernel : decode code 2457 = .ok (.ireturn, 1)) rfl am_okZ_n
theorem c_307_2458 : Snd 307 2458 (i_goto 3145) := s_goto (by decide +kernel : decode code 2458 = .ok (.goto 687, 3)) (by decide +kernel)
theorem c_307_2461 : Snd 307 2461 (i_aload 1 2462) := s_aload_n (by decide +kernel : decode code 2461 = .ok (.aload_n 1, 1)) rfl rfl
theorem c_307_2462 : Snd 307 2462 (i_aload 4 2464) := s_aload (by decide +kernel : decode code 2462 = .ok (.aload 4, 2)) rfl
theorem c_307_2464 : Snd 307 2464 (i_calls 152 2) := s_callsX (by decide +kernel : decode code 2464 = .ok (.invokestatic 312, 3)) ok_152 rfl w_1026 w_1027
theorem c_307_2467 : Snd 307 2467 (i_store 6 2469) := s_istore (by decide +kernel : decode code 2467 = .ok (.istore 6, 2)) ⟨Or.inr (by decide +kernel), by decide +kernel⟩ rfl
theorem c_307_2469 : Snd 307 2469 (i_aload 2 2470) := s_aload_n (by decide +kernel : decode code 2469 = .ok (.aload_n 2, 1)) rfl rfl
theorem c_307_2470 : Snd 307 2470 (i_call 283 0 9) := s_call (c := 9) (nm := "SmokeRelayModel") (by decide +kernel : decode code 2470 = .ok (.invokevirtual 315, 3)) ok_283 rfl (Or.inl rfl) rfl w_1668 w_1669 w_1670
theorem c_307_2473 : Snd 307 2473 (i_dstore 7 2475) := s_dstore (by decide +kernel : decode code 2473 = .ok (.dstore 7, 2)) rfl rfl rfl
theorem c_307_2475 : Snd 307 2475 (i_aload 2 2476) := s_aload_n (by decide +kernel : decode code 2475 = .ok (.aload_n 2, 1)) rfl rfl
theorem c_307_2476 : Snd 307 2476 (i_call 209 0 9) := s_call (c := 9) (nm := "SmokeRelayModel") (by decide +kernel : decode code 2476 = .ok (.invokevirtual 179, 3)) ok_209 rfl (Or.inl rfl) rfl w_1369 w_1370 w_1371
theorem c_307_2479 : Snd 307 2479 (i_iload 6 2481) := s_iload (by decide +kernel : decode code 2479 = .ok (.iload 6, 2)) rfl
theorem c_307_2481 : Snd 307 2481 (i_icmp (fun a b => a = b) (fun _ _ => inferInstance) 2486 2484) := s_icmpeq (by decide +kernel : decode code 2481 = .ok (.if_icmp .eq 5, 3)) (by decide +kernel) rfl
theorem c_307_2484 : Snd 307 2484 (i_push (aI 0) 2485) := s_iconst (by decide +kernel : decode code 2484 = .ok (.iconst 0, 1)) (by decide) rfl
theorem c_307_2485 : Snd 307 2485 (i_iret am_okZ) := s_iret (ty := .boolean) (by decide +kernel : decode code 2485 = .ok (.ireturn, 1)) rfl am_okZ_n
theorem c_307_2486 : Snd 307 2486 (i_iload 6 2488) := s_iload (by decide +kernel : decode code 2486 = .ok (.iload 6, 2)) rfl
theorem c_307_2488 : Snd 307 2488 (i_if (fun a => a ≠ 0) (fun _ => inferInstance) 2523 2491) := s_ifne (by decide +kernel : decode code 2488 = .ok (.ifCond .ne 35, 3)) (by decide +kernel) rfl
theorem c_307_2491 : Snd 307 2491 (i_aload 4 2493) := s_aload (by decide +kernel : decode code 2491 = .ok (.aload 4, 2)) rfl
theorem c_307_2493 : Snd 307 2493 (i_push (aI 0) 2494) := s_iconst (by decide +kernel : decode code 2493 = .ok (.iconst 0, 1)) (by decide) rfl
theorem c_307_2494 : Snd 307 2494 (i_dald 2495) := s_dald (by decide +kernel : decode code 2494 = .ok (.daload, 1)) rfl
theorem c_307_2495 : Snd 307 2495 (i_dload 7 2497) := s_dload (by decide +kernel : decode code 2495 = .ok (.dload 7, 2)) rfl
theorem c_307_2497 : Snd 307 2497 (i_dcmp .l 2498) := s_dcmp (by decide +kernel : decode code 2497 = .ok (.dcmp .l, 1)) rfl
theorem c_307_2498 : Snd 307 2498 (i_if (fun a => a = 0) (fun _ => inferInstance) 2523 2501) := s_ifeq (by decide +kernel : decode code 2498 = .ok (.ifCond .eq 25, 3)) (by decide +kernel) rfl
theorem c_307_2501 : Snd 307 2501 (i_aload 4 2503) := s_aload (by decide +kernel : decode code 2501 = .ok (.aload 4, 2)) rfl
theorem c_307_2503 : Snd 307 2503 (i_push (aI 0) 2504) := s_iconst (by decide +kernel : decode code 2503 = .ok (.iconst 0, 1)) (by decide) rfl
theorem c_307_2504 : Snd 307 2504 (i_dald 2505) := s_dald (by decide +kernel : decode code 2504 = .ok (.daload, 1)) rfl
theorem c_307_2505 : Snd 307 2505 (i_aload 4 2507) := s_aload (by decide +kernel : decode code 2505 = .ok (.aload 4, 2)) rfl
theorem c_307_2507 : Snd 307 2507 (i_push (aI 0) 2508) := s_iconst (by decide +kernel : decode code 2507 = .ok (.iconst 0, 1)) (by decide) rfl
theorem c_307_2508 : Snd 307 2508 (i_dald 2509) := s_dald (by decide +kernel : decode code 2508 = .ok (.daload, 1)) rfl
theorem c_307_2509 : Snd 307 2509 (i_dcmp .l 2510) := s_dcmp (by decide +kernel : decode code 2509 = .ok (.dcmp .l, 1)) rfl
theorem c_307_2510 : Snd 307 2510 (i_if (fun a => a = 0) (fun _ => inferInstance) 2521 2513) := s_ifeq (by decide +kernel : decode code 2510 = .ok (.ifCond .eq 11, 3)) (by decide +kernel) rfl
theorem c_307_2513 : Snd 307 2513 (i_dload 7 2515) := s_dload (by decide +kernel : decode code 2513 = .ok (.dload 7, 2)) rfl
theorem c_307_2515 : Snd 307 2515 (i_dload 7 2517) := s_dload (by decide +kernel : decode code 2515 = .ok (.dload 7, 2)) rfl
theorem c_307_2517 : Snd 307 2517 (i_dcmp .l 2518) := s_dcmp (by decide +kernel : decode code 2517 = .ok (.dcmp .l, 1)) rfl
theorem c_307_2518 : Snd 307 2518 (i_if (fun a => a ≠ 0) (fun _ => inferInstance) 2523 2521) := s_ifne (by decide +kernel : decode code 2518 = .ok (.ifCond .ne 5, 3)) (by decide +kernel) rfl
theorem c_307_2521 : Snd 307 2521 (i_push (aI 0) 2522) := s_iconst (by decide +kernel : decode code 2521 = .ok (.iconst 0, 1)) (by decide) rfl
theorem c_307_2522 : Snd 307 2522 (i_iret am_okZ) := s_iret (ty := .boolean) (by decide +kernel : decode code 2522 = .ok (.ireturn, 1)) rfl am_okZ_n
theorem c_307_2523 : Snd 307 2523 (i_goto 3145) := s_goto (by decide +kernel : decode code 2523 = .ok (.goto 622, 3)) (by decide +kernel)
theorem c_307_2526 : Snd 307 2526 (i_aload 1 2527) := s_aload_n (by decide +kernel : decode code 2526 = .ok (.aload_n 1, 1)) rfl rfl
theorem c_307_2527 : Snd 307 2527 (i_aload 4 2529) := s_aload (by decide +kernel : decode code 2527 = .ok (.aload 4, 2)) rfl
theorem c_307_2529 : Snd 307 2529 (i_calls 154 2) := s_callsX (by decide +kernel : decode code 2529 = .ok (.invokestatic 316, 3)) ok_154 rfl w_1050 w_1051
theorem c_307_2532 : Snd 307 2532 (i_store 6 2534) := s_istore (by decide +kernel : decode code 2532 = .ok (.istore 6, 2)) ⟨Or.inr (by decide +kernel), by decide +kernel⟩ rfl
theorem c_307_2534 : Snd 307 2534 (i_aload 2 2535) := s_aload_n (by decide +kernel : decode code 2534 = .ok (.aload_n 2, 1)) rfl rfl
theorem c_307_2535 : Snd 307 2535 (i_call 284 0 9) := s_call (c := 9) (nm := "SmokeRelayModel") (by decide +kernel : decode code 2535 = .ok (.invokevirtual 318, 3)) ok_284 rfl (Or.inl rfl) rfl w_1672 w_1673 w_1674
theorem c_307_2538 : Snd 307 2538 (i_fstore 7 2540) := s_fstore (by decide +kernel : decode code 2538 = .ok (.fstore 7, 2)) ⟨Or.inr (by decide +kernel), by decide +kernel⟩ rfl
theorem c_307_2540 : Snd 307 2540 (i_aload 2 2541) := s_aload_n (by decide +kernel : decode code 2540 = .ok (.aload_n 2, 1)) rfl rfl
theorem c_307_2541 : Snd 307 2541 (i_call 209 0 9) := s_call (c := 9) (nm := "SmokeRelayModel") (by decide +kernel : decode code 2541 = .ok (.invokevirtual 179, 3)) ok_209 rfl (Or.inl rfl) rfl w_1369 w_1370 w_1371
theorem c_307_2544 : Snd 307 2544 (i_iload 6 2546) := s_iload (by decide +kernel : decode code 2544 = .ok (.iload 6, 2)) rfl
theorem c_307_2546 : Snd 307 2546 (i_icmp (fun a b => a = b) (fun _ _ => inferInstance) 2551 2549) := s_icmpeq (by decide +kernel : decode code 2546 = .ok (.if_icmp .eq 5, 3)) (by decide +kernel) rfl
theorem c_307_2549 : Snd 307 2549 (i_push (aI 0) 2550) := s_iconst (by decide +kernel : decode code 2549 = .ok (.iconst 0, 1)) (by decide) rfl
theorem c_307_2550 : Snd 307 2550 (i_iret am_okZ) := s_iret (ty := .boolean) (by decide +kernel : decode code 2550 = .ok (.ireturn, 1)) rfl am_okZ_n
theorem c_307_2551 : Snd 307 2551 (i_iload 6 2553) := s_iload (by decide +kernel : decode code 2551 = .ok (.iload 6, 2)) rfl
theorem c_307_2553 : Snd 307 2553 (i_if (fun a => a ≠ 0) (fun _ => inferInstance) 2589 2556) := s_ifne (by decide +kernel : decode code 2553 = .ok (.ifCond .ne 36, 3)) (by decide +kernel) rfl
theorem c_307_2556 : Snd 307 2556 (i_aload 4 2558) := s_aload (by decide +kernel : decode code 2556 = .ok (.aload 4, 2)) rfl
theorem c_307_2558 : Snd 307 2558 (i_push (aI 0) 2559) := s_iconst (by decide +kernel : decode code 2558 = .ok (.iconst 0, 1)) (by decide) rfl
theorem c_307_2559 : Snd 307 2559 (i_dald 2560) := s_dald (by decide +kernel : decode code 2559 = .ok (.daload, 1)) rfl
theorem c_307_2560 : Snd 307 2560 (i_fload 7 2562) := s_fload (by decide +kernel : decode code 2560 = .ok (.fload 7, 2)) rfl
theorem c_307_2562 : Snd 307 2562 (i_f2d 2563) := s_f2d (by decide +kernel : decode code 2562 = .ok (.f2d, 1)) rfl
theorem c_307_2563 : Snd 307 2563 (i_dcmp .l 2564) := s_dcmp (by decide +kernel : decode code 2563 = .ok (.dcmp .l, 1)) rfl
theorem c_307_2564 : Snd 307 2564 (i_if (fun a => a = 0) (fun _ => inferInstance) 2589 2567) := s_ifeq (by decide +kernel : decode code 2564 = .ok (.ifCond .eq 25, 3)) (by decide +kernel) rfl
theorem c_307_2567 : Snd 307 2567 (i_aload 4 2569) := s_aload (by decide +kernel : decode code 2567 = .ok (.aload 4, 2)) rfl
theorem c_307_2569 : Snd 307 2569 (i_push (aI 0) 2570) := s_iconst (by decide +kernel : decode code 2569 = .ok (.iconst 0, 1)) (by decide) rfl
theorem c_307_2570 : Snd 307 2570 (i_dald 2571) := s_dald (by decide +kernel : decode code 2570 = .ok (.daload, 1)) rfl
theorem c_307_2571 : Snd 307 2571 (i_aload 4 2573) := s_aload (by decide +kernel : decode code 2571 = .ok (.aload 4, 2)) rfl
theorem c_307_2573 : Snd 307 2573 (i_push (aI 0) 2574) := s_iconst (by decide +kernel : decode code 2573 = .ok (.iconst 0, 1)) (by decide) rfl
theorem c_307_2574 : Snd 307 2574 (i_dald 2575) := s_dald (by decide +kernel : decode code 2574 = .ok (.daload, 1)) rfl
theorem c_307_2575 : Snd 307 2575 (i_dcmp .l 2576) := s_dcmp (by decide +kernel : decode code 2575 = .ok (.dcmp .l, 1)) rfl
theorem c_307_2576 : Snd 307 2576 (i_if (fun a => a = 0) (fun _ => inferInstance) 2587 2579) := s_ifeq (by decide +kernel : decode code 2576 = .ok (.ifCond .eq 11, 3)) (by decide +kernel) rfl
theorem c_307_2579 : Snd 307 2579 (i_fload 7 2581) := s_fload (by decide +kernel : decode code 2579 = .ok (.fload 7, 2)) rfl
theorem c_307_2581 : Snd 307 2581 (i_fload 7 2583) := s_fload (by decide +kernel : decode code 2581 = .ok (.fload 7, 2)) rfl
theorem c_307_2583 : Snd 307 2583 (i_fcmp .l 2584) := s_fcmp (by decide +kernel : decode code 2583 = .ok (.fcmp .l, 1)) rfl
theorem c_307_2584 : Snd 307 2584 (i_if (fun a => a ≠ 0) (fun _ => inferInstance) 2589 2587) := s_ifne (by decide +kernel : decode code 2584 = .ok (.ifCond .ne 5, 3)) (by decide +kernel) rfl
theorem c_307_2587 : Snd 307 2587 (i_push (aI 0) 2588) := s_iconst (by decide +kernel : decode code 2587 = .ok (.iconst 0, 1)) (by decide) rfl
theorem c_307_2588 : Snd 307 2588 (i_iret am_okZ) := s_iret (ty := .boolean) (by decide +kernel : decode code 2588 = .ok (.ireturn, 1)) rfl am_okZ_n
theorem c_307_2589 : Snd 307 2589 (i_goto 3145) := s_goto (by decide +kernel : decode code 2589 = .ok (.goto 556, 3)) (by decide +kernel)
theorem c_307_2592 : Snd 307 2592 (i_aload 1 2593) := s_aload_n (by decide +kernel : decode code 2592 = .ok (.aload_n 1, 1)) rfl rfl
theorem c_307_2593 : Snd 307 2593 (i_aload 0 2594) := s_aload_n (by decide +kernel : decode code 2593 = .ok (.aload_n 0, 1)) rfl rfl
theorem c_307_2594 : Snd 307 2594 (i_iload 5 2596) := s_iload (by decide +kernel : decode code 2594 = .ok (.iload 5, 2)) rfl
theorem c_307_2596 : Snd 307 2596 (i_push (aI 1) 2597) := s_iconst (by decide +kernel : decode code 2596 = .ok (.iconst 1, 1)) (by decide) rfl
theorem c_307_2597 : Snd 307 2597 (i_bin (fun a b => a + b) 2598) := s_iadd (by decide +kernel : decode code 2597 = .ok (.iadd, 1)) rfl
theorem c_307_2598 : Snd 307 2598 (i_iald 2599) := s_iald (by decide +kernel : decode code 2598 = .ok (.iaload, 1)) rfl
theorem c_307_2599 : Snd 307 2599 (i_aload 3 2600) := s_aload_n (by decide +kernel : decode code 2599 = .ok (.aload_n 3, 1)) rfl rfl
theorem c_307_2600 : Snd 307 2600 (i_calls 156 3) := s_callsX (by decide +kernel : decode code 2600 = .ok (.invokestatic 319, 3)) ok_156 rfl w_1057 w_1058
theorem c_307_2603 : Snd 307 2603 (i_store 6 2605) := s_istore (by decide +kernel : decode code 2603 = .ok (.istore 6, 2)) ⟨Or.inr (by decide +kernel), by decide +kernel⟩ rfl
theorem c_307_2605 : Snd 307 2605 (i_aload 2 2606) := s_aload_n (by decide +kernel : decode code 2605 = .ok (.aload_n 2, 1)) rfl rfl
theorem c_307_2606 : Snd 307 2606 (i_aload 0 2607) := s_aload_n (by decide +kernel : decode code 2606 = .ok (.aload_n 0, 1)) rfl rfl
theorem c_307_2607 : Snd 307 2607 (i_iload 5 2609) := s_iload (by decide +kernel : decode code 2607 = .ok (.iload 5, 2)) rfl
theorem c_307_2609 : Snd 307 2609 (i_push (aI 1) 2610) := s_iconst (by decide +kernel : decode code 2609 = .ok (.iconst 1, 1)) (by decide) rfl
theorem c_307_2610 : Snd 307 2610 (i_bin (fun a b => a + b) 2611) := s_iadd (by decide +kernel : decode code 2610 = .ok (.iadd, 1)) rfl
theorem c_307_2611 : Snd 307 2611 (i_iald 2612) := s_iald (by decide +kernel : decode code 2611 = .ok (.iaload, 1)) rfl
theorem c_307_2612 : Snd 307 2612 (i_call 286 1 9) := s_call (c := 9) (nm := "SmokeRelayModel") (by decide +kernel : decode code 2612 = .ok (.invokevirtual 321, 3)) ok_286 rfl (Or.inl rfl) rfl w_1680 w_1681 w_1682
theorem c_307_2615 : Snd 307 2615 (i_store 7 2617) := s_istore (by decide +kernel : decode code 2615 = .ok (.istore 7, 2)) ⟨Or.inr (by decide +kernel), by decide +kernel⟩ rfl
theorem c_307_2617 : Snd 307 2617 (i_aload 2 2618) := s_aload_n (by decide +kernel : decode code 2617 = .ok (.aload_n 2, 1)) rfl rfl
theorem c_307_2618 : Snd 307 2618 (i_call 209 0 9) := s_call (c := 9) (nm := "SmokeRelayModel") (by decide +kernel : decode code 2618 = .ok (.invokevirtual 179, 3)) ok_209 rfl (Or.inl rfl) rfl w_1369 w_1370 w_1371
theorem c_307_2621 : Snd 307 2621 (i_iload 6 2623) := s_iload (by decide +kernel : decode code 2621 = .ok (.iload 6, 2)) rfl
theorem c_307_2623 : Snd 307 2623 (i_icmp (fun a b => a = b) (fun _ _ => inferInstance) 2628 2626) := s_icmpeq (by decide +kernel : decode code 2623 = .ok (.if_icmp .eq 5, 3)) (by decide +kernel) rfl
theorem c_307_2626 : Snd 307 2626 (i_push (aI 0) 2627) := s_iconst (by decide +kernel : decode code 2626 = .ok (.iconst 0, 1)) (by decide) rfl
theorem c_307_2627 : Snd 307 2627 (i_iret am_okZ) := s_iret (ty := .boolean) (by decide +kernel : decode code 2627 = .ok (.ireturn, 1)) rfl am_okZ_n
theorem c_307_2628 : Snd 307 2628 (i_iload 6 2630) := s_iload (by decide +kernel : decode code 2628 = .ok (.iload 6, 2)) rfl
theorem c_307_2630 : Snd 307 2630 (i_if (fun a => a ≠ 0) (fun _ => inferInstance) 2645 2633) := s_ifne (by decide +kernel : decode code 2630 = .ok (.ifCond .ne 15, 3)) (by decide +kernel) rfl
theorem c_307_2633 : Snd 307 2633 (i_aload 3 2634) := s_aload_n (by decide +kernel : decode code 2633 = .ok (.aload_n 3, 1)) rfl rfl
theorem c_307_2634 : Snd 307 2634 (i_push (aI 0) 2635) := s_iconst (by decide +kernel : decode code 2634 = .ok (.iconst 0, 1)) (by decide) rfl
theorem c_307_2635 : Snd 307 2635 (i_lald 2636) := s_lald (by decide +kernel : decode code 2635 = .ok (.laload, 1)) rfl
theorem c_307_2636 : Snd 307 2636 (i_iload 7 2638) := s_iload (by decide +kernel : decode code 2636 = .ok (.iload 7, 2)) rfl
theorem c_307_2638 : Snd 307 2638 (i_i2l 2639) := s_i2l (by decide +kernel : decode code 2638 = .ok (.i2l, 1)) rfl
theorem c_307_2639 : Snd 307 2639 (i_lcmp 2640) := s_lcmp (by decide +kernel : decode code 2639 = .ok (.lcmp, 1)) rfl
theorem c_307_2640 : Snd 307 2640 (i_if (fun a => a = 0) (fun _ => inferInstance) 2645 2643) := s_ifeq (by decide +kernel : decode code 2640 = .ok (.ifCond .eq 5, 3)) (by decide +kernel) rfl
theorem c_307_2643 : Snd 307 2643 (i_push (aI 0) 2644) := s_iconst (by decide +kernel : decode code 2643 = .ok (.iconst 0, 1)) (by decide) rfl
theorem c_307_2644 : Snd 307 2644 (i_iret am_okZ) := s_iret (ty := .boolean) (by decide +kernel : decode code 2644 = .ok (.ireturn, 1)) rfl am_okZ_n
theorem c_307_2645 : Snd 307 2645 (i_goto 3145) := s_goto (by decide +kernel : decode code 2645 = .ok (.goto 500, 3)) (by decide +kernel)
theorem c_307_2648 : Snd 307 2648 (i_aload 1 2649) := s_aload_n (by decide +kernel : decode code 2648 = .ok (.aload_n 1, 1)) rfl rfl
theorem c_307_2649 : Snd 307 2649 (i_aload 0 2650) := s_aload_n (by decide +kernel : decode code 2649 = .ok (.aload_n 0, 1)) rfl rfl
theorem c_307_2650 : Snd 307 2650 (i_iload 5 2652) := s_iload (by decide +kernel : decode code 2650 = .ok (.iload 5, 2)) rfl
theorem c_307_2652 : Snd 307 2652 (i_push (aI 1) 2653) := s_iconst (by decide +kernel : decode code 2652 = .ok (.iconst 1, 1)) (by decide) rfl
theorem c_307_2653 : Snd 307 2653 (i_bin (fun a b => a + b) 2654) := s_iadd (by decide +kernel : decode code 2653 = .ok (.iadd, 1)) rfl
theorem c_307_2654 : Snd 307 2654 (i_iald 2655) := s_iald (by decide +kernel : decode code 2654 = .ok (.iaload, 1)) rfl
theorem c_307_2655 : Snd 307 2655 (i_aload 0 2656) := s_aload_n (by decide +kernel : decode code 2655 = .ok (.aload_n 0, 1)) rfl rfl
theorem c_307_2656 : Snd 307 2656 (i_iload 5 2658) := s_iload (by decide +kernel : decode code 2656 = .ok (.iload 5, 2)) rfl
theorem c_307_2658 : Snd 307 2658 (i_push (aI 2) 2659) := s_iconst (by decide +kernel : decode code 2658 = .ok (.iconst 2, 1)) (by decide) rfl
theorem c_307_2659 : Snd 307 2659 (i_bin (fun a b => a + b) 2660) := s_iadd (by decide +kernel : decode code 2659 = .ok (.iadd, 1)) rfl
theorem c_307_2660 : Snd 307 2660 (i_iald 2661) := s_iald (by decide +kernel : decode code 2660 = .ok (.iaload, 1)) rfl
theorem c_307_2661 : Snd 307 2661 (i_aload 3 2662) := s_aload_n (by decide +kernel : decode code 2661 = .ok (.aload_n 3, 1)) rfl rfl
theorem c_307_2662 : Snd 307 2662 (i_calls 161 4) := s_callsX (by decide +kernel : decode code 2662 = .ok (.invokestatic 322, 3)) ok_161 rfl w_1077 w_1078
theorem c_307_2665 : Snd 307 2665 (i_store 6 2667) := s_istore (by decide +kernel : decode code 2665 = .ok (.istore 6, 2)) ⟨Or.inr (by decide +kernel), by decide +kernel⟩ rfl
theorem c_307_2667 : Snd 307 2667 (i_aload 2 2668) := s_aload_n (by decide +kernel : decode code 2667 = .ok (.aload_n 2, 1)) rfl rfl
theorem c_307_2668 : Snd 307 2668 (i_aload 0 2669) := s_aload_n (by decide +kernel : decode code 2668 = .ok (.aload_n 0, 1)) rfl rfl
theorem c_307_2669 : Snd 307 2669 (i_iload 5 2671) := s_iload (by decide +kernel : decode code 2669 = .ok (.iload 5, 2)) rfl
theorem c_307_2671 : Snd 307 2671 (i_push (aI 1) 2672) := s_iconst (by decide +kernel : decode code 2671 = .ok (.iconst 1, 1)) (by decide) rfl
theorem c_307_2672 : Snd 307 2672 (i_bin (fun a b => a + b) 2673) := s_iadd (by decide +kernel : decode code 2672 = .ok (.iadd, 1)) rfl
theorem c_307_2673 : Snd 307 2673 (i_iald 2674) := s_iald (by decide +kernel : decode code 2673 = .ok (.iaload, 1)) rfl
theorem c_307_2674 : Snd 307 2674 (i_aload 0 2675) := s_aload_n (by decide +kernel : decode code 2674 = .ok (.aload_n 0, 1)) rfl rfl
theorem c_307_2675 : Snd 307 2675 (i_iload 5 2677) := s_iload (by decide +kernel : decode code 2675 = .ok (.iload 5, 2)) rfl
theorem c_307_2677 : Snd 307 2677 (i_push (aI 2) 2678) := s_iconst (by decide +kernel : decode code 2677 = .ok (.iconst 2, 1)) (by decide) rfl
theorem c_307_2678 : Snd 307 2678 (i_bin (fun a b => a + b) 2679) := s_iadd (by decide +kernel : decode code 2678 = .ok (.iadd, 1)) rfl
theorem c_307_2679 : Snd 307 2679 (i_iald 2680) := s_iald (by decide +kernel : decode code 2679 = .ok (.iaload, 1)) rfl
theorem c_307_2680 : Snd 307 2680 (i_call 289 2 9) := s_call (c := 9) (nm := "SmokeRelayModel") (by decide +kernel : decode code 2680 = .ok (.invokevirtual 324, 3)) ok_289 rfl (Or.inl rfl) rfl w_1692 w_1693 w_1694
theorem c_307_2683 : Snd 307 2683 (i_store 7 2685) := s_istore (by decide +kernel : decode code 2683 = .ok (.istore 7, 2)) ⟨Or.inr (by decide +kernel), by decide +kernel⟩ rfl
theorem c_307_2685 : Snd 307 2685 (i_aload 2 2686) := s_aload_n (by decide +kernel : decode code 2685 = .ok (.aload_n 2, 1)) rfl rfl
theorem c_307_2686 : Snd 307 2686 (i_call 209 0 9) := s_call (c := 9) (nm := "SmokeRelayModel") (by decide +kernel : decode code 2686 = .ok (.invokevirtual 179, 3)) ok_209 rfl (Or.inl rfl) rfl w_1369 w_1370 w_1371
theorem c_307_2689 : Snd 307 2689 (i_iload 6 2691) := s_iload (by decide +kernel : decode code 2689 = .ok (.iload 6, 2)) rfl
theorem c_307_2691 : Snd 307 2691 (i_icmp (fun a b => a = b) (fun _ _ => inferInstance) 2696 2694) := s_icmpeq (by decide +kernel : decode code 2691 = .ok (.if_icmp .eq 5, 3)) (by decide +kernel) rfl
theorem c_307_2694 : Snd 307 2694 (i_push (aI 0) 2695) := s_iconst (by decide +kernel : decode code 2694 = .ok (.iconst 0, 1)) (by decide) rfl
theorem c_307_2695 : Snd 307 2695 (i_iret am_okZ) := s_iret (ty := .boolean) (by decide +kernel : decode code 2695 = .ok (.ireturn, 1)) rfl am_okZ_n
theorem c_307_2696 : Snd 307 2696 (i_iload 6 2698) := s_iload (by decide +kernel : decode code 2696 = .ok (.iload 6, 2)) rfl
theorem c_307_2698 : Snd 307 2698 (i_if (fun a => a ≠ 0) (fun _ => inferInstance) 2713 2701) := s_ifne (by decide +kernel : decode code 2698 = .ok (.ifCond .ne 15, 3)) (by decide +kernel) rfl
theorem c_307_2701 : Snd 307 2701 (i_aload 3 2702) := s_aload_n (by decide +kernel : decode code 2701 = .ok (.aload_n 3, 1)) rfl rfl
theorem c_307_2702 : Snd 307 2702 (i_push (aI 0) 2703) := s_iconst (by decide +kernel : decode code 2702 = .ok (.iconst 0, 1)) (by decide) rfl
theorem c_307_2703 : Snd 307 2703 (i_lald 2704) := s_lald (by decide +kernel : decode code 2703 = .ok (.laload, 1)) rfl
theorem c_307_2704 : Snd 307 2704 (i_iload 7 2706) := s_iload (by decide +kernel : decode code 2704 = .ok (.iload 7, 2)) rfl
theorem c_307_2706 : Snd 307 2706 (i_i2l 2707) := s_i2l (by decide +kernel : decode code 2706 = .ok (.i2l, 1)) rfl
theorem c_307_2707 : Snd 307 2707 (i_lcmp 2708) := s_lcmp (by decide +kernel : decode code 2707 = .ok (.lcmp, 1)) rfl
theorem c_307_2708 : Snd 307 2708 (i_if (fun a => a = 0) (fun _ => inferInstance) 2713 2711) := s_ifeq (by decide +kernel : decode code 2708 = .ok (.ifCond .eq 5, 3)) (by decide +kernel) rfl
theorem c_307_2711 : Snd 307 2711 (i_push (aI 0) 2712) := s_iconst (by decide +kernel : decode code 2711 = .ok (.iconst 0, 1)) (by decide) rfl
theorem c_307_2712 : Snd 307 2712 (i_iret am_okZ) := s_iret (ty := .boolean) (by decide +kernel : decode code 2712 = .ok (.ireturn, 1)) rfl am_okZ_n
theorem c_307_2713 : Snd 307 2713 (i_goto 3145) := s_goto (by decide +kernel : decode code 2713 = .ok (.goto 432, 3)) (by decide +kernel)
theorem c_307_2716 : Snd 307 2716 (i_aload 1 2717) := s_aload_n (by decide +kernel : decode code 2716 = .ok (.aload_n 1, 1)) rfl rfl
theorem c_307_2717 : Snd 307 2717 (i_aload 0 2718) := s_aload_n (by decide +kernel : decode code 2717 = .ok (.aload_n 0, 1)) rfl rfl
theorem c_307_2718 : Snd 307 2718 (i_iload 5 2720) := s_iload (by decide +kernel : decode code 2718 = .ok (.iload 5, 2)) rfl
theorem c_307_2720 : Snd 307 2720 (i_push (aI 1) 2721) := s_iconst (by decide +kernel : decode code 2720 = .ok (.iconst 1, 1)) (by decide) rfl
theorem c_307_2721 : Snd 307 2721 (i_bin (fun a b => a + b) 2722) := s_iadd (by decide +kernel : decode code 2721 = .ok (.iadd, 1)) rfl
theorem c_307_2722 : Snd 307 2722 (i_iald 2723) := s_iald (by decide +kernel : decode code 2722 = .ok (.iaload, 1)) rfl
theorem c_307_2723 : Snd 307 2723 (i_aload 3 2724) := s_aload_n (by decide +kernel : decode code 2723 = .ok (.aload_n 3, 1)) rfl rfl
theorem c_307_2724 : Snd 307 2724 (i_calls 163 3) := s_callsX (by decide +kernel : decode code 2724 = .ok (.invokestatic 325, 3)) ok_163 rfl w_1084 w_1085
theorem c_307_2727 : Snd 307 2727 (i_store 6 2729) := s_istore (by decide +kernel : decode code 2727 = .ok (.istore 6, 2)) ⟨Or.inr (by decide +kernel), by decide +kernel⟩ rfl
theorem c_307_2729 : Snd 307 2729 (i_aload 2 2730) := s_aload_n (by decide +kernel : decode code 2729 = .ok (.aload_n 2, 1)) rfl rfl
theorem c_307_2730 : Snd 307 2730 (i_aload 0 2731) := s_aload_n (by decide +kernel : decode code 2730 = .ok (.aload_n 0, 1)) rfl rfl
theorem c_307_2731 : Snd 307 2731 (i_iload 5 2733) := s_iload (by decide +kernel : decode code 2731 = .ok (.iload 5, 2)) rfl
theorem c_307_2733 : Snd 307 2733 (i_push (aI 1) 2734) := s_iconst (by decide +kernel : decode code 2733 = .ok (.iconst 1, 1)) (by decide) rfl
theorem c_307_2734 : Snd 307 2734 (i_bin (fun a b => a + b) 2735) := s_iadd (by decide +kernel : decode code 2734 = .ok (.iadd, 1)) rfl
theorem c_307_2735 : Snd 307 2735 (i_iald 2736) := s_iald (by decide +kernel : decode code 2735 = .ok (.iaload, 1)) rfl
theorem c_307_2736 : Snd 307 2736 (i_call 290 1 9) := s_call (c := 9) (nm := "SmokeRelayModel") (by decide +kernel : decode code 2736 = .ok (.invokevirtual 327, 3)) ok_290 rfl (Or.inl rfl) rfl w_1696 w_1697 w_1698
theorem c_307_2739 : Snd 307 2739 (i_store 7 2741) := s_istore (by decide +kernel : decode code 2739 = .ok (.istore 7, 2)) ⟨Or.inr (by decide +kernel), by decide +kernel⟩ rfl
theorem c_307_2741 : Snd 307 2741 (i_aload 2 2742) := s_aload_n (by decide +kernel : decode code 2741 = .ok (.aload_n 2, 1)) rfl rfl
theorem c_307_2742 : Snd 307 2742 (i_call 209 0 9) := s_call (c := 9) (nm := "SmokeRelayModel") (by decide +kernel : decode code 2742 = .ok (.invokevirtual 179, 3)) ok_209 rfl (Or.inl rfl) rfl w_1369 w_1370 w_1371
theorem c_307_2745 : Snd 307 2745 (i_iload 6 2747) := s_iload (by decide +kernel : decode code 2745 = .ok (.iload 6, 2)) rfl
theorem c_307_2747 : Snd 307 2747 (i_icmp (fun a b => a = b) (fun _ _ => inferInstance) 2752 2750) := s_icmpeq (by decide +kernel : decode code 2747 = .ok (.if_icmp .eq 5, 3)) (by decide +kernel) rfl
theorem c_307_2750 : Snd 307 2750 (i_push (aI 0) 2751) := s_iconst (by decide +kernel : decode code 2750 = .ok (.iconst 0, 1)) (by decide) rfl
theorem c_307_2751 : Snd 307 2751 (i_iret am_okZ) := s_iret (ty := .boolean) (by decide +kernel : decode code 2751 = .ok (.ireturn, 1)) rfl am_okZ_n
theorem c_307_2752 : Snd 307 2752 (i_iload 6 2754) := s_iload (by decide +kernel : decode code 2752 = .ok (.iload 6, 2)) rfl
theorem c_307_2754 : Snd 307 2754 (i_if (fun a => a ≠ 0) (fun _ => inferInstance) 2769 2757) := s_ifne (by decide +kernel : decode code 2754 = .ok (.ifCond .ne 15, 3)) (by decide +kernel) rfl
theorem c_307_2757 : Snd 307 2757 (i_aload 3 2758) := s_aload_n (by decide +kernel : decode code 2757 = .ok (.aload_n 3, 1)) rfl rfl
theorem c_307_2758 : Snd 307 2758 (i_push (aI 0) 2759) := s_iconst (by decide +kernel : decode code 2758 = .ok (.iconst 0, 1)) (by decide) rfl
theorem c_307_2759 : Snd 307 2759 (i_lald 2760) := s_lald (by decide +kernel : decode code 2759 = .ok (.laload, 1)) rfl
theorem c_307_2760 : Snd 307 2760 (i_iload 7 2762) := s_iload (by decide +kernel : decode code 2760 = .ok (.iload 7, 2)) rfl
theorem c_307_2762 : Snd 307 2762 (i_i2l 2763) := s_i2l (by decide +kernel : decode code 2762 = .ok (.i2l, 1)) rfl
theorem c_307_2763 : Snd 307 2763 (i_lcmp 2764) := s_lcmp (by decide +kernel : decode code 2763 = .ok (.lcmp, 1)) rfl
theorem c_307_2764 : Snd 307 2764 (i_if (fun a => a = 0) (fun _ => inferInstance) 2769 2767) := s_ifeq (by decide +kernel : decode code 2764 = .ok (.ifCond .eq 5, 3)) (by decide +kernel) rfl
theorem c_307_2767 : Snd 307 2767 (i_push (aI 0) 2768) := s_iconst (by decide +kernel : decode code 2767 = .ok (.iconst 0, 1)) (by decide) rfl
theorem c_307_2768 : Snd 307 2768 (i_iret am_okZ) := s_iret (ty := .boolean) (by decide +kernel : decode code 2768 = .ok (.ireturn, 1)) rfl am_okZ_n
theorem c_307_2769 : Snd 307 2769 (i_goto 3145) := s_goto (by decide +kernel : decode code 2769 = .ok (.goto 376, 3)) (by decide +kernel)
theorem c_307_2772 : Snd 307 2772 (i_aload 1 2773) := s_aload_n (by decide +kernel : decode code 2772 = .ok (.aload_n 1, 1)) rfl rfl
theorem c_307_2773 : Snd 307 2773 (i_aload 0 2774) := s_aload_n (by decide +kernel : decode code 2773 = .ok (.aload_n 0, 1)) rfl rfl
theorem c_307_2774 : Snd 307 2774 (i_iload 5 2776) := s_iload (by decide +kernel : decode code 2774 = .ok (.iload 5, 2)) rfl
theorem c_307_2776 : Snd 307 2776 (i_push (aI 1) 2777) := s_iconst (by decide +kernel : decode code 2776 = .ok (.iconst 1, 1)) (by decide) rfl
theorem c_307_2777 : Snd 307 2777 (i_bin (fun a b => a + b) 2778) := s_iadd (by decide +kernel : decode code 2777 = .ok (.iadd, 1)) rfl
theorem c_307_2778 : Snd 307 2778 (i_iald 2779) := s_iald (by decide +kernel : decode code 2778 = .ok (.iaload, 1)) rfl
theorem c_307_2779 : Snd 307 2779 (i_aload 3 2780) := s_aload_n (by decide +kernel : decode code 2779 = .ok (.aload_n 3, 1)) rfl rfl
theorem c_307_2780 : Snd 307 2780 (i_calls 165 3) := s_callsX (by decide +kernel : decode code 2780 = .ok (.invokestatic 328, 3)) ok_165 rfl w_1091 w_1092
theorem c_307_2783 : Snd 307 2783 (i_store 6 2785) := s_istore (by decide +kernel : decode code 2783 = .ok (.istore 6, 2)) ⟨Or.inr (by decide +kernel), by decide +kernel⟩ rfl
theorem c_307_2785 : Snd 307 2785 (i_aload 2 2786) := s_aload_n (by decide +kernel : decode code 2785 = .ok (.aload_n 2, 1)) rfl rfl
theorem c_307_2786 : Snd 307 2786 (i_aload 0 2787) := s_aload_n (by decide +kernel : decode code 2786 = .ok (.aload_n 0, 1)) rfl rfl
theorem c_307_2787 : Snd 307 2787 (i_iload 5 2789) := s_iload (by decide +kernel : decode code 2787 = .ok (.iload 5, 2)) rfl
theorem c_307_2789 : Snd 307 2789 (i_push (aI 1) 2790) := s_iconst (by decide +kernel : decode code 2789 = .ok (.iconst 1, 1)) (by decide) rfl
theorem c_307_2790 : Snd 307 2790 (i_bin (fun a b => a + b) 2791) := s_iadd (by decide +kernel : decode code 2790 = .ok (.iadd, 1)) rfl
theorem c_307_2791 : Snd 307 2791 (i_iald 2792) := s_iald (by decide +kernel : decode code 2791 = .ok (.iaload, 1)) rfl
theorem c_307_2792 : Snd 307 2792 (i_call 291 1 9) := s_call (c := 9) (nm := "SmokeRelayModel") (by decide +kernel : decode code 2792 = .ok (.invokevirtual 330, 3)) ok_291 rfl (Or.inl rfl) rfl w_1700 w_1701 w_1702
theorem c_307_2795 : Snd 307 2795 (i_store 7 2797) := s_istore (by decide +kernel : decode code 2795 = .ok (.istore 7, 2)) ⟨Or.inr (by decide +kernel), by decide +kernel⟩ rfl
theorem c_307_2797 : Snd 307 2797 (i_aload 2 2798) := s_aload_n (by decide +kernel : decode code 2797 = .ok (.aload_n 2, 1)) rfl rfl
theorem c_307_2798 : Snd 307 2798 (i_call 209 0 9) := s_call (c := 9) (nm := "SmokeRelayModel") (by decide +kernel : decode code 2798 = .ok (.invokevirtual 179, 3)) ok_209 rfl (Or.inl rfl) rfl w_1369 w_1370 w_1371
theorem c_307_2801 : Snd 307 2801 (i_iload 6 2803) := s_iload (by decide +kernel : decode code 2801 = .ok (.iload 6, 2)) rfl
theorem c_307_2803 : Snd 307 2803 (i_icmp (fun a b => a = b) (fun _ _ => inferInstance) 2808 2806) := s_icmpeq (by decide +kernel : decode code 2803 = .ok (.if_icmp .eq 5, 3)) (by decide +kernel) rfl
theorem c_307_2806 : Snd 307 2806 (i_push (aI 0) 2807) := s_iconst (by decide +kernel : decode code 2806 = .ok (.iconst 0, 1)) (by decide) rfl
theorem c_307_2807 : Snd 307 2807 (i_iret am_okZ) := s_iret (ty := .boolean) (by decide +kernel : decode code 2807 = .ok (.ireturn, 1)) rfl am_okZ_n
theorem c_307_2808 : Snd 307 2808 (i_iload 6 2810) := s_iload (by decide +kernel : decode code 2808 = .ok (.iload 6, 2)) rfl
theorem c_307_2810 : Snd 307 2810 (i_if (fun a => a ≠ 0) (fun _ => inferInstance) 2825 2813) := s_ifne (by decide +kernel : decode code 2810 = .ok (.ifCond .ne 15, 3)) (by decide +kernel) rfl
theorem c_307_2813 : Snd 307 2813 (i_aload 3 2814) := s_aload_n (by decide +kernel : decode code 2813 = .ok (.aload_n 3, 1)) rfl rfl
theorem c_307_2814 : Snd 307 2814 (i_push (aI 0) 2815) := s_iconst (by decide +kernel : decode code 2814 = .ok (.iconst 0, 1)) (by decide) rfl
theorem c_307_2815 : Snd 307 2815 (i_lald 2816) := s_lald (by decide +kernel : decode code 2815 = .ok (.laload, 1)) rfl
theorem c_307_2816 : Snd 307 2816 (i_iload 7 2818) := s_iload (by decide +kernel : decode code 2816 = .ok (.iload 7, 2)) rfl
theorem c_307_2818 : Snd 307 2818 (i_i2l 2819) := s_i2l (by decide +kernel : decode code 2818 = .ok (.i2l, 1)) rfl
theorem c_307_2819 : Snd 307 2819 (i_lcmp 2820) := s_lcmp (by decide +kernel : decode code 2819 = .ok (.lcmp, 1)) rfl
theorem c_307_2820 : Snd 307 2820 (i_if (fun a => a = 0) (fun _ => inferInstance) 2825 2823) := s_ifeq (by decide +kernel : decode code 2820 = .ok (.ifCond .eq 5, 3)) (by decide +kernel) rfl
theorem c_307_2823 : Snd 307 2823 (i_push (aI 0) 2824) := s_iconst (by decide +kernel : decode code 2823 = .ok (.iconst 0, 1)) (by decide) rfl
theorem c_307_2824 : Snd 307 2824 (i_iret am_okZ) := s_iret (ty := .boolean) (by decide +kernel : decode code 2824 = .ok (.ireturn, 1)) rfl am_okZ_n
theorem c_307_2825 : Snd 307 2825 (i_goto 3145) := s_goto (by decide +kernel : decode code 2825 = .ok (.goto 320, 3)) (by decide +kernel)
theorem c_307_2828 : Snd 307 2828 (i_aload 1 2829) := s_aload_n (by decide +kernel : decode code 2828 = .ok (.aload_n 1, 1)) rfl rfl
theorem c_307_2829 : Snd 307 2829 (i_call 41 0 0) := s_call (c := 0) (nm := "SmokeRelay") (by decide +kernel : decode code 2829 = .ok (.invokevirtual 331, 3)) ok_41 rfl (Or.inl rfl) rfl w_433 w_434 w_435
theorem c_307_2832 : Snd 307 2832 (i_aload 2 2833) := s_aload_n (by decide +kernel : decode code 2832 = .ok (.aload_n 2, 1)) rfl rfl
theorem c_307_2833 : Snd 307 2833 (i_call 285 0 9) := s_call (c := 9) (nm := "SmokeRelayModel") (by decide +kernel : decode code 2833 = .ok (.invokevirtual 335, 3)) ok_285 rfl (Or.inl rfl) rfl w_1676 w_1677 w_1678
theorem c_307_2836 : Snd 307 2836 (i_icmp (fun a b => a = b) (fun _ _ => inferInstance) 3145 2839) := s_icmpeq (by decide +kernel : decode code 2836 = .ok (.if_icmp .eq 309, 3)) (by decide +kernel) rfl
theorem c_307_2839 : Snd 307 2839 (i_push (aI 0) 2840) := s_iconst (by decide +kernel : decode code 2839 = .ok (.iconst 0, 1)) (by decide) rfl
theorem c_307_2840 : Snd 307 2840 (i_iret am_okZ) := s_iret (ty := .boolean) (by decide +kernel : decode code 2840 = .ok (.ireturn, 1)) rfl am_okZ_n
theorem c_307_2841 : Snd 307 2841 (i_aload 1 2842) := s_aload_n (by decide +kernel : decode code 2841 = .ok (.aload_n 1, 1)) rfl rfl
theorem c_307_2842 : Snd 307 2842 (i_aload 0 2843) := s_aload_n (by decide +kernel : decode code 2842 = .ok (.aload_n 0, 1)) rfl rfl
theorem c_307_2843 : Snd 307 2843 (i_iload 5 2845) := s_iload (by decide +kernel : decode code 2843 = .ok (.iload 5, 2)) rfl
theorem c_307_2845 : Snd 307 2845 (i_push (aI 1) 2846) := s_iconst (by decide +kernel : decode code 2845 = .ok (.iconst 1, 1)) (by decide) rfl
theorem c_307_2846 : Snd 307 2846 (i_bin (fun a b => a + b) 2847) := s_iadd (by decide +kernel : decode code 2846 = .ok (.iadd, 1)) rfl
theorem c_307_2847 : Snd 307 2847 (i_iald 2848) := s_iald (by decide +kernel : decode code 2847 = .ok (.iaload, 1)) rfl
