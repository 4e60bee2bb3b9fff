/-! the law's own instructions -/
theorem dL_law_2193 : decode cL_law 2193 = .ok (.aload_n 3, 1) := by decide +kernel
theorem dL_law_2194 : decode cL_law 2194 = .ok (.iconst 0, 1) := by decide +kernel
theorem dL_law_2195 : decode cL_law 2195 = .ok (.laload, 1) := by decide +kernel
theorem dL_law_2196 : decode cL_law 2196 = .ok (.iload 6, 2) := by decide +kernel
theorem dL_law_2198 : decode cL_law 2198 = .ok (.i2l, 1) := by decide +kernel
theorem dL_law_2199 : decode cL_law 2199 = .ok (.lcmp, 1) := by decide +kernel
theorem dL_law_2200 : decode cL_law 2200 = .ok (.ifCond .eq 5, 3) := by decide +kernel
theorem dL_law_2205 : decode cL_law 2205 = .ok (.goto 811, 3) := by decide +kernel
theorem dL_law_2208 : decode cL_law 2208 = .ok (.aload_n 1, 1) := by decide +kernel
theorem dL_law_2209 : decode cL_law 2209 = .ok (.aload_n 0, 1) := by decide +kernel
theorem dL_law_2210 : decode cL_law 2210 = .ok (.iload 4, 2) := by decide +kernel
theorem dL_law_2212 : decode cL_law 2212 = .ok (.iconst 1, 1) := by decide +kernel
theorem dL_law_2213 : decode cL_law 2213 = .ok (.iadd, 1) := by decide +kernel
theorem dL_law_2214 : decode cL_law 2214 = .ok (.iaload, 1) := by decide +kernel
theorem dL_law_2215 : decode cL_law 2215 = .ok (.aload_n 3, 1) := by decide +kernel
theorem dL_law_2216 : decode cL_law 2216 = .ok (.invokestatic 262, 3) := by decide +kernel
theorem dL_law_2219 : decode cL_law 2219 = .ok (.istore 5, 2) := by decide +kernel
theorem dL_law_2221 : decode cL_law 2221 = .ok (.aload_n 2, 1) := by decide +kernel
theorem dL_law_2222 : decode cL_law 2222 = .ok (.aload_n 0, 1) := by decide +kernel
theorem dL_law_2223 : decode cL_law 2223 = .ok (.iload 4, 2) := by decide +kernel
theorem dL_law_2225 : decode cL_law 2225 = .ok (.iconst 1, 1) := by decide +kernel
theorem dL_law_2226 : decode cL_law 2226 = .ok (.iadd, 1) := by decide +kernel
theorem dL_law_2227 : decode cL_law 2227 = .ok (.iaload, 1) := by decide +kernel
theorem dL_law_2228 : decode cL_law 2228 = .ok (.invokevirtual 264, 3) := by decide +kernel
theorem dL_law_2231 : decode cL_law 2231 = .ok (.istore 6, 2) := by decide +kernel
theorem dL_law_2233 : decode cL_law 2233 = .ok (.aload_n 2, 1) := by decide +kernel
theorem dL_law_2234 : decode cL_law 2234 = .ok (.invokevirtual 156, 3) := by decide +kernel
theorem dL_law_2237 : decode cL_law 2237 = .ok (.iload 5, 2) := by decide +kernel
theorem dL_law_2239 : decode cL_law 2239 = .ok (.if_icmp .eq 5, 3) := by decide +kernel
theorem dL_law_2244 : decode cL_law 2244 = .ok (.iload 5, 2) := by decide +kernel
theorem dL_law_2246 : decode cL_law 2246 = .ok (.ifCond .ne 15, 3) := by decide +kernel
theorem dL_law_2249 : decode cL_law 2249 = .ok (.aload_n 3, 1) := by decide +kernel
theorem dL_law_2250 : decode cL_law 2250 = .ok (.iconst 0, 1) := by decide +kernel
theorem dL_law_2251 : decode cL_law 2251 = .ok (.laload, 1) := by decide +kernel
theorem dL_law_2252 : decode cL_law 2252 = .ok (.iload 6, 2) := by decide +kernel
theorem dL_law_2254 : decode cL_law 2254 = .ok (.i2l, 1) := by decide +kernel
theorem dL_law_2255 : decode cL_law 2255 = .ok (.lcmp, 1) := by decide +kernel
theorem dL_law_2256 : decode cL_law 2256 = .ok (.ifCond .eq 5, 3) := by decide +kernel
theorem dL_law_2261 : decode cL_law 2261 = .ok (.goto 755, 3) := by decide +kernel
theorem dL_law_2264 : decode cL_law 2264 = .ok (.aload_n 1, 1) := by decide +kernel
theorem dL_law_2265 : decode cL_law 2265 = .ok (.aload_n 0, 1) := by decide +kernel
theorem dL_law_2266 : decode cL_law 2266 = .ok (.iload 4, 2) := by decide +kernel
theorem dL_law_2268 : decode cL_law 2268 = .ok (.iconst 1, 1) := by decide +kernel
theorem dL_law_2269 : decode cL_law 2269 = .ok (.iadd, 1) := by decide +kernel
theorem dL_law_2270 : decode cL_law 2270 = .ok (.iaload, 1) := by decide +kernel
theorem dL_law_2271 : decode cL_law 2271 = .ok (.aload_n 0, 1) := by decide +kernel
theorem dL_law_2272 : decode cL_law 2272 = .ok (.iload 4, 2) := by decide +kernel
theorem dL_law_2274 : decode cL_law 2274 = .ok (.iconst 2, 1) := by decide +kernel
theorem dL_law_2275 : decode cL_law 2275 = .ok (.iadd, 1) := by decide +kernel
theorem dL_law_2276 : decode cL_law 2276 = .ok (.iaload, 1) := by decide +kernel
theorem dL_law_2277 : decode cL_law 2277 = .ok (.aload_n 0, 1) := by decide +kernel
theorem dL_law_2278 : decode cL_law 2278 = .ok (.iload 4, 2) := by decide +kernel
theorem dL_law_2280 : decode cL_law 2280 = .ok (.iconst 3, 1) := by decide +kernel
theorem dL_law_2281 : decode cL_law 2281 = .ok (.iadd, 1) := by decide +kernel
theorem dL_law_2282 : decode cL_law 2282 = .ok (.iaload, 1) := by decide +kernel
theorem dL_law_2283 : decode cL_law 2283 = .ok (.ifCond .eq 7, 3) := by decide +kernel
theorem dL_law_2286 : decode cL_law 2286 = .ok (.iconst 1, 1) := by decide +kernel
theorem dL_law_2287 : decode cL_law 2287 = .ok (.goto 4, 3) := by decide +kernel
theorem dL_law_2290 : decode cL_law 2290 = .ok (.iconst 0, 1) := by decide +kernel
theorem dL_law_2291 : decode cL_law 2291 = .ok (.aload_n 3, 1) := by decide +kernel
theorem dL_law_2292 : decode cL_law 2292 = .ok (.invokestatic 265, 3) := by decide +kernel
theorem dL_law_2295 : decode cL_law 2295 = .ok (.istore 5, 2) := by decide +kernel
theorem dL_law_2297 : decode cL_law 2297 = .ok (.aload_n 2, 1) := by decide +kernel
theorem dL_law_2298 : decode cL_law 2298 = .ok (.aload_n 0, 1) := by decide +kernel
theorem dL_law_2299 : decode cL_law 2299 = .ok (.iload 4, 2) := by decide +kernel
theorem dL_law_2301 : decode cL_law 2301 = .ok (.iconst 1, 1) := by decide +kernel
theorem dL_law_2302 : decode cL_law 2302 = .ok (.iadd, 1) := by decide +kernel
theorem dL_law_2303 : decode cL_law 2303 = .ok (.iaload, 1) := by decide +kernel
theorem dL_law_2304 : decode cL_law 2304 = .ok (.aload_n 0, 1) := by decide +kernel
theorem dL_law_2305 : decode cL_law 2305 = .ok (.iload 4, 2) := by decide +kernel
theorem dL_law_2307 : decode cL_law 2307 = .ok (.iconst 2, 1) := by decide +kernel
theorem dL_law_2308 : decode cL_law 2308 = .ok (.iadd, 1) := by decide +kernel
theorem dL_law_2309 : decode cL_law 2309 = .ok (.iaload, 1) := by decide +kernel
theorem dL_law_2310 : decode cL_law 2310 = .ok (.aload_n 0, 1) := by decide +kernel
theorem dL_law_2311 : decode cL_law 2311 = .ok (.iload 4, 2) := by decide +kernel
theorem dL_law_2313 : decode cL_law 2313 = .ok (.iconst 3, 1) := by decide +kernel
theorem dL_law_2314 : decode cL_law 2314 = .ok (.iadd, 1) := by decide +kernel
theorem dL_law_2315 : decode cL_law 2315 = .ok (.iaload, 1) := by decide +kernel
theorem dL_law_2316 : decode cL_law 2316 = .ok (.ifCond .eq 7, 3) := by decide +kernel
theorem dL_law_2319 : decode cL_law 2319 = .ok (.iconst 1, 1) := by decide +kernel
theorem dL_law_2320 : decode cL_law 2320 = .ok (.goto 4, 3) := by decide +kernel
theorem dL_law_2323 : decode cL_law 2323 = .ok (.iconst 0, 1) := by decide +kernel
theorem dL_law_2324 : decode cL_law 2324 = .ok (.invokevirtual 268, 3) := by decide +kernel
theorem dL_law_2327 : decode cL_law 2327 = .ok (.istore 6, 2) := by decide +kernel
theorem dL_law_2329 : decode cL_law 2329 = .ok (.aload_n 2, 1) := by decide +kernel
theorem dL_law_2330 : decode cL_law 2330 = .ok (.invokevirtual 156, 3) := by decide +kernel
theorem dL_law_2333 : decode cL_law 2333 = .ok (.iload 5, 2) := by decide +kernel
theorem dL_law_2335 : decode cL_law 2335 = .ok (.if_icmp .eq 5, 3) := by decide +kernel
theorem dL_law_2340 : decode cL_law 2340 = .ok (.iload 5, 2) := by decide +kernel
theorem dL_law_2342 : decode cL_law 2342 = .ok (.ifCond .ne 15, 3) := by decide +kernel
theorem dL_law_2345 : decode cL_law 2345 = .ok (.aload_n 3, 1) := by decide +kernel
theorem dL_law_2346 : decode cL_law 2346 = .ok (.iconst 0, 1) := by decide +kernel
theorem dL_law_2347 : decode cL_law 2347 = .ok (.laload, 1) := by decide +kernel
theorem dL_law_2348 : decode cL_law 2348 = .ok (.iload 6, 2) := by decide +kernel
theorem dL_law_2350 : decode cL_law 2350 = .ok (.i2l, 1) := by decide +kernel
theorem dL_law_2351 : decode cL_law 2351 = .ok (.lcmp, 1) := by decide +kernel
theorem dL_law_2352 : decode cL_law 2352 = .ok (.ifCond .eq 5, 3) := by decide +kernel
theorem dL_law_2357 : decode cL_law 2357 = .ok (.goto 659, 3) := by decide +kernel
theorem dL_law_2360 : decode cL_law 2360 = .ok (.aload_n 1, 1) := by decide +kernel
theorem dL_law_2361 : decode cL_law 2361 = .ok (.aload_n 0, 1) := by decide +kernel
theorem dL_law_2362 : decode cL_law 2362 = .ok (.iload 4, 2) := by decide +kernel
theorem dL_law_2364 : decode cL_law 2364 = .ok (.iconst 1, 1) := by decide +kernel
theorem dL_law_2365 : decode cL_law 2365 = .ok (.iadd, 1) := by decide +kernel
theorem dL_law_2366 : decode cL_law 2366 = .ok (.iaload, 1) := by decide +kernel
theorem dL_law_2367 : decode cL_law 2367 = .ok (.aload_n 0, 1) := by decide +kernel
theorem dL_law_2368 : decode cL_law 2368 = .ok (.iload 4, 2) := by decide +kernel
theorem dL_law_2370 : decode cL_law 2370 = .ok (.iconst 2, 1) := by decide +kernel
theorem dL_law_2371 : decode cL_law 2371 = .ok (.iadd, 1) := by decide +kernel
theorem dL_law_2372 : decode cL_law 2372 = .ok (.iaload, 1) := by decide +kernel
theorem dL_law_2373 : decode cL_law 2373 = .ok (.aload_n 0, 1) := by decide +kernel
theorem dL_law_2374 : decode cL_law 2374 = .ok (.iload 4, 2) := by decide +kernel
theorem dL_law_2376 : decode cL_law 2376 = .ok (.iconst 3, 1) := by decide +kernel
theorem dL_law_2377 : decode cL_law 2377 = .ok (.iadd, 1) := by decide +kernel
theorem dL_law_2378 : decode cL_law 2378 = .ok (.iaload, 1) := by decide +kernel
theorem dL_law_2379 : decode cL_law 2379 = .ok (.invokestatic 269, 3) := by decide +kernel
theorem dL_law_2382 : decode cL_law 2382 = .ok (.istore 5, 2) := by decide +kernel
theorem dL_law_2384 : decode cL_law 2384 = .ok (.aload_n 2, 1) := by decide +kernel
theorem dL_law_2385 : decode cL_law 2385 = .ok (.aload_n 0, 1) := by decide +kernel
theorem dL_law_2386 : decode cL_law 2386 = .ok (.iload 4, 2) := by decide +kernel
theorem dL_law_2388 : decode cL_law 2388 = .ok (.iconst 1, 1) := by decide +kernel
theorem dL_law_2389 : decode cL_law 2389 = .ok (.iadd, 1) := by decide +kernel
theorem dL_law_2390 : decode cL_law 2390 = .ok (.iaload, 1) := by decide +kernel
theorem dL_law_2391 : decode cL_law 2391 = .ok (.aload_n 0, 1) := by decide +kernel
theorem dL_law_2392 : decode cL_law 2392 = .ok (.iload 4, 2) := by decide +kernel
theorem dL_law_2394 : decode cL_law 2394 = .ok (.iconst 2, 1) := by decide +kernel
theorem dL_law_2395 : decode cL_law 2395 = .ok (.iadd, 1) := by decide +kernel
theorem dL_law_2396 : decode cL_law 2396 = .ok (.iaload, 1) := by decide +kernel
theorem dL_law_2397 : decode cL_law 2397 = .ok (.aload_n 0, 1) := by decide +kernel
theorem dL_law_2398 : decode cL_law 2398 = .ok (.iload 4, 2) := by decide +kernel
theorem dL_law_2400 : decode cL_law 2400 = .ok (.iconst 3, 1) := by decide +kernel
theorem dL_law_2401 : decode cL_law 2401 = .ok (.iadd, 1) := by decide +kernel
theorem dL_law_2402 : decode cL_law 2402 = .ok (.iaload, 1) := by decide +kernel
theorem dL_law_2403 : decode cL_law 2403 = .ok (.invokevirtual 272, 3) := by decide +kernel
theorem dL_law_2406 : decode cL_law 2406 = .ok (.aload_n 2, 1) := by decide +kernel
theorem dL_law_2407 : decode cL_law 2407 = .ok (.invokevirtual 156, 3) := by decide +kernel
theorem dL_law_2410 : decode cL_law 2410 = .ok (.iload 5, 2) := by decide +kernel
theorem dL_law_2412 : decode cL_law 2412 = .ok (.if_icmp .eq 5, 3) := by decide +kernel
theorem dL_law_2417 : decode cL_law 2417 = .ok (.goto 599, 3) := by decide +kernel
theorem dL_law_2420 : decode cL_law 2420 = .ok (.aload_n 1, 1) := by decide +kernel
theorem dL_law_2421 : decode cL_law 2421 = .ok (.aload_n 0, 1) := by decide +kernel
theorem dL_law_2422 : decode cL_law 2422 = .ok (.iload 4, 2) := by decide +kernel
theorem dL_law_2424 : decode cL_law 2424 = .ok (.iconst 1, 1) := by decide +kernel
theorem dL_law_2425 : decode cL_law 2425 = .ok (.iadd, 1) := by decide +kernel
theorem dL_law_2426 : decode cL_law 2426 = .ok (.iaload, 1) := by decide +kernel
theorem dL_law_2427 : decode cL_law 2427 = .ok (.aload_n 0, 1) := by decide +kernel
theorem dL_law_2428 : decode cL_law 2428 = .ok (.iload 4, 2) := by decide +kernel
theorem dL_law_2430 : decode cL_law 2430 = .ok (.iconst 2, 1) := by decide +kernel
theorem dL_law_2431 : decode cL_law 2431 = .ok (.iadd, 1) := by decide +kernel
theorem dL_law_2432 : decode cL_law 2432 = .ok (.iaload, 1) := by decide +kernel
theorem dL_law_2433 : decode cL_law 2433 = .ok (.aload_n 3, 1) := by decide +kernel
theorem dL_law_2434 : decode cL_law 2434 = .ok (.invokestatic 273, 3) := by decide +kernel
theorem dL_law_2437 : decode cL_law 2437 = .ok (.istore 5, 2) := by decide +kernel
theorem dL_law_2439 : decode cL_law 2439 = .ok (.aload_n 2, 1) := by decide +kernel
theorem dL_law_2440 : decode cL_law 2440 = .ok (.aload_n 0, 1) := by decide +kernel
theorem dL_law_2441 : decode cL_law 2441 = .ok (.iload 4, 2) := by decide +kernel
theorem dL_law_2443 : decode cL_law 2443 = .ok (.iconst 1, 1) := by decide +kernel
theorem dL_law_2444 : decode cL_law 2444 = .ok (.iadd, 1) := by decide +kernel
theorem dL_law_2445 : decode cL_law 2445 = .ok (.iaload, 1) := by decide +kernel
theorem dL_law_2446 : decode cL_law 2446 = .ok (.aload_n 0, 1) := by decide +kernel
theorem dL_law_2447 : decode cL_law 2447 = .ok (.iload 4, 2) := by decide +kernel
theorem dL_law_2449 : decode cL_law 2449 = .ok (.iconst 2, 1) := by decide +kernel
theorem dL_law_2450 : decode cL_law 2450 = .ok (.iadd, 1) := by decide +kernel
theorem dL_law_2451 : decode cL_law 2451 = .ok (.iaload, 1) := by decide +kernel
theorem dL_law_2452 : decode cL_law 2452 = .ok (.invokevirtual 275, 3) := by decide +kernel
