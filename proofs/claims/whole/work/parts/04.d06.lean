theorem dL_law_2236 : decode cL_law 2236 = .ok (.ireturn, 1) := by decide +kernel
theorem dL_law_2237 : decode cL_law 2237 = .ok (.goto 510, 3) := by decide +kernel
theorem dL_law_2240 : decode cL_law 2240 = .ok (.aload_n 1, 1) := by decide +kernel
theorem dL_law_2241 : decode cL_law 2241 = .ok (.aload_n 0, 1) := by decide +kernel
theorem dL_law_2242 : decode cL_law 2242 = .ok (.iload 4, 2) := by decide +kernel
theorem dL_law_2244 : decode cL_law 2244 = .ok (.iconst 1, 1) := by decide +kernel
theorem dL_law_2245 : decode cL_law 2245 = .ok (.iadd, 1) := by decide +kernel
theorem dL_law_2246 : decode cL_law 2246 = .ok (.iaload, 1) := by decide +kernel
theorem dL_law_2247 : decode cL_law 2247 = .ok (.aload_n 0, 1) := by decide +kernel
theorem dL_law_2248 : decode cL_law 2248 = .ok (.iload 4, 2) := by decide +kernel
theorem dL_law_2250 : decode cL_law 2250 = .ok (.iconst 2, 1) := by decide +kernel
theorem dL_law_2251 : decode cL_law 2251 = .ok (.iadd, 1) := by decide +kernel
theorem dL_law_2252 : decode cL_law 2252 = .ok (.iaload, 1) := by decide +kernel
theorem dL_law_2253 : decode cL_law 2253 = .ok (.aload_n 3, 1) := by decide +kernel
theorem dL_law_2254 : decode cL_law 2254 = .ok (.invokestatic 251, 3) := by decide +kernel
theorem dL_law_2257 : decode cL_law 2257 = .ok (.istore 5, 2) := by decide +kernel
theorem dL_law_2259 : decode cL_law 2259 = .ok (.aload_n 2, 1) := by decide +kernel
theorem dL_law_2260 : decode cL_law 2260 = .ok (.aload_n 0, 1) := by decide +kernel
theorem dL_law_2261 : decode cL_law 2261 = .ok (.iload 4, 2) := by decide +kernel
theorem dL_law_2263 : decode cL_law 2263 = .ok (.iconst 1, 1) := by decide +kernel
theorem dL_law_2264 : decode cL_law 2264 = .ok (.iadd, 1) := by decide +kernel
theorem dL_law_2265 : decode cL_law 2265 = .ok (.iaload, 1) := by decide +kernel
theorem dL_law_2266 : decode cL_law 2266 = .ok (.aload_n 0, 1) := by decide +kernel
theorem dL_law_2267 : decode cL_law 2267 = .ok (.iload 4, 2) := by decide +kernel
theorem dL_law_2269 : decode cL_law 2269 = .ok (.iconst 2, 1) := by decide +kernel
theorem dL_law_2270 : decode cL_law 2270 = .ok (.iadd, 1) := by decide +kernel
theorem dL_law_2271 : decode cL_law 2271 = .ok (.iaload, 1) := by decide +kernel
theorem dL_law_2272 : decode cL_law 2272 = .ok (.invokevirtual 253, 3) := by decide +kernel
theorem dL_law_2275 : decode cL_law 2275 = .ok (.istore 6, 2) := by decide +kernel
theorem dL_law_2277 : decode cL_law 2277 = .ok (.aload_n 2, 1) := by decide +kernel
theorem dL_law_2278 : decode cL_law 2278 = .ok (.invokevirtual 141, 3) := by decide +kernel
theorem dL_law_2281 : decode cL_law 2281 = .ok (.iload 5, 2) := by decide +kernel
theorem dL_law_2283 : decode cL_law 2283 = .ok (.if_icmp .eq 5, 3) := by decide +kernel
theorem dL_law_2286 : decode cL_law 2286 = .ok (.iconst 0, 1) := by decide +kernel
theorem dL_law_2287 : decode cL_law 2287 = .ok (.ireturn, 1) := by decide +kernel
theorem dL_law_2288 : decode cL_law 2288 = .ok (.iload 5, 2) := by decide +kernel
theorem dL_law_2290 : decode cL_law 2290 = .ok (.ifCond .ne 15, 3) := by decide +kernel
theorem dL_law_2293 : decode cL_law 2293 = .ok (.aload_n 3, 1) := by decide +kernel
theorem dL_law_2294 : decode cL_law 2294 = .ok (.iconst 0, 1) := by decide +kernel
theorem dL_law_2295 : decode cL_law 2295 = .ok (.laload, 1) := by decide +kernel
theorem dL_law_2296 : decode cL_law 2296 = .ok (.iload 6, 2) := by decide +kernel
theorem dL_law_2298 : decode cL_law 2298 = .ok (.i2l, 1) := by decide +kernel
theorem dL_law_2299 : decode cL_law 2299 = .ok (.lcmp, 1) := by decide +kernel
theorem dL_law_2300 : decode cL_law 2300 = .ok (.ifCond .eq 5, 3) := by decide +kernel
theorem dL_law_2303 : decode cL_law 2303 = .ok (.iconst 0, 1) := by decide +kernel
theorem dL_law_2304 : decode cL_law 2304 = .ok (.ireturn, 1) := by decide +kernel
theorem dL_law_2305 : decode cL_law 2305 = .ok (.goto 442, 3) := by decide +kernel
theorem dL_law_2308 : decode cL_law 2308 = .ok (.aload_n 1, 1) := by decide +kernel
theorem dL_law_2309 : decode cL_law 2309 = .ok (.aload_n 0, 1) := by decide +kernel
theorem dL_law_2310 : decode cL_law 2310 = .ok (.iload 4, 2) := by decide +kernel
theorem dL_law_2312 : decode cL_law 2312 = .ok (.iconst 1, 1) := by decide +kernel
theorem dL_law_2313 : decode cL_law 2313 = .ok (.iadd, 1) := by decide +kernel
theorem dL_law_2314 : decode cL_law 2314 = .ok (.iaload, 1) := by decide +kernel
theorem dL_law_2315 : decode cL_law 2315 = .ok (.aload_n 0, 1) := by decide +kernel
theorem dL_law_2316 : decode cL_law 2316 = .ok (.iload 4, 2) := by decide +kernel
theorem dL_law_2318 : decode cL_law 2318 = .ok (.iconst 2, 1) := by decide +kernel
theorem dL_law_2319 : decode cL_law 2319 = .ok (.iadd, 1) := by decide +kernel
theorem dL_law_2320 : decode cL_law 2320 = .ok (.iaload, 1) := by decide +kernel
theorem dL_law_2321 : decode cL_law 2321 = .ok (.aload_n 3, 1) := by decide +kernel
theorem dL_law_2322 : decode cL_law 2322 = .ok (.invokestatic 254, 3) := by decide +kernel
theorem dL_law_2325 : decode cL_law 2325 = .ok (.istore 5, 2) := by decide +kernel
theorem dL_law_2327 : decode cL_law 2327 = .ok (.aload_n 2, 1) := by decide +kernel
theorem dL_law_2328 : decode cL_law 2328 = .ok (.aload_n 0, 1) := by decide +kernel
theorem dL_law_2329 : decode cL_law 2329 = .ok (.iload 4, 2) := by decide +kernel
theorem dL_law_2331 : decode cL_law 2331 = .ok (.iconst 1, 1) := by decide +kernel
theorem dL_law_2332 : decode cL_law 2332 = .ok (.iadd, 1) := by decide +kernel
theorem dL_law_2333 : decode cL_law 2333 = .ok (.iaload, 1) := by decide +kernel
theorem dL_law_2334 : decode cL_law 2334 = .ok (.aload_n 0, 1) := by decide +kernel
theorem dL_law_2335 : decode cL_law 2335 = .ok (.iload 4, 2) := by decide +kernel
theorem dL_law_2337 : decode cL_law 2337 = .ok (.iconst 2, 1) := by decide +kernel
theorem dL_law_2338 : decode cL_law 2338 = .ok (.iadd, 1) := by decide +kernel
theorem dL_law_2339 : decode cL_law 2339 = .ok (.iaload, 1) := by decide +kernel
theorem dL_law_2340 : decode cL_law 2340 = .ok (.invokevirtual 256, 3) := by decide +kernel
theorem dL_law_2343 : decode cL_law 2343 = .ok (.istore 6, 2) := by decide +kernel
theorem dL_law_2345 : decode cL_law 2345 = .ok (.aload_n 2, 1) := by decide +kernel
theorem dL_law_2346 : decode cL_law 2346 = .ok (.invokevirtual 141, 3) := by decide +kernel
theorem dL_law_2349 : decode cL_law 2349 = .ok (.iload 5, 2) := by decide +kernel
theorem dL_law_2351 : decode cL_law 2351 = .ok (.if_icmp .eq 5, 3) := by decide +kernel
theorem dL_law_2354 : decode cL_law 2354 = .ok (.iconst 0, 1) := by decide +kernel
theorem dL_law_2355 : decode cL_law 2355 = .ok (.ireturn, 1) := by decide +kernel
theorem dL_law_2356 : decode cL_law 2356 = .ok (.iload 5, 2) := by decide +kernel
theorem dL_law_2358 : decode cL_law 2358 = .ok (.ifCond .ne 15, 3) := by decide +kernel
theorem dL_law_2361 : decode cL_law 2361 = .ok (.aload_n 3, 1) := by decide +kernel
theorem dL_law_2362 : decode cL_law 2362 = .ok (.iconst 0, 1) := by decide +kernel
theorem dL_law_2363 : decode cL_law 2363 = .ok (.laload, 1) := by decide +kernel
theorem dL_law_2364 : decode cL_law 2364 = .ok (.iload 6, 2) := by decide +kernel
theorem dL_law_2366 : decode cL_law 2366 = .ok (.i2l, 1) := by decide +kernel
theorem dL_law_2367 : decode cL_law 2367 = .ok (.lcmp, 1) := by decide +kernel
theorem dL_law_2368 : decode cL_law 2368 = .ok (.ifCond .eq 5, 3) := by decide +kernel
theorem dL_law_2371 : decode cL_law 2371 = .ok (.iconst 0, 1) := by decide +kernel
theorem dL_law_2372 : decode cL_law 2372 = .ok (.ireturn, 1) := by decide +kernel
theorem dL_law_2373 : decode cL_law 2373 = .ok (.goto 374, 3) := by decide +kernel
theorem dL_law_2376 : decode cL_law 2376 = .ok (.aload_n 1, 1) := by decide +kernel
theorem dL_law_2377 : decode cL_law 2377 = .ok (.aload_n 0, 1) := by decide +kernel
theorem dL_law_2378 : decode cL_law 2378 = .ok (.iload 4, 2) := by decide +kernel
theorem dL_law_2380 : decode cL_law 2380 = .ok (.iconst 1, 1) := by decide +kernel
theorem dL_law_2381 : decode cL_law 2381 = .ok (.iadd, 1) := by decide +kernel
theorem dL_law_2382 : decode cL_law 2382 = .ok (.iaload, 1) := by decide +kernel
theorem dL_law_2383 : decode cL_law 2383 = .ok (.aload_n 0, 1) := by decide +kernel
theorem dL_law_2384 : decode cL_law 2384 = .ok (.iload 4, 2) := by decide +kernel
theorem dL_law_2386 : decode cL_law 2386 = .ok (.iconst 2, 1) := by decide +kernel
theorem dL_law_2387 : decode cL_law 2387 = .ok (.iadd, 1) := by decide +kernel
theorem dL_law_2388 : decode cL_law 2388 = .ok (.iaload, 1) := by decide +kernel
theorem dL_law_2389 : decode cL_law 2389 = .ok (.aload_n 3, 1) := by decide +kernel
theorem dL_law_2390 : decode cL_law 2390 = .ok (.invokestatic 257, 3) := by decide +kernel
theorem dL_law_2393 : decode cL_law 2393 = .ok (.istore 5, 2) := by decide +kernel
theorem dL_law_2395 : decode cL_law 2395 = .ok (.aload_n 2, 1) := by decide +kernel
theorem dL_law_2396 : decode cL_law 2396 = .ok (.aload_n 0, 1) := by decide +kernel
theorem dL_law_2397 : decode cL_law 2397 = .ok (.iload 4, 2) := by decide +kernel
theorem dL_law_2399 : decode cL_law 2399 = .ok (.iconst 1, 1) := by decide +kernel
theorem dL_law_2400 : decode cL_law 2400 = .ok (.iadd, 1) := by decide +kernel
theorem dL_law_2401 : decode cL_law 2401 = .ok (.iaload, 1) := by decide +kernel
theorem dL_law_2402 : decode cL_law 2402 = .ok (.aload_n 0, 1) := by decide +kernel
theorem dL_law_2403 : decode cL_law 2403 = .ok (.iload 4, 2) := by decide +kernel
theorem dL_law_2405 : decode cL_law 2405 = .ok (.iconst 2, 1) := by decide +kernel
theorem dL_law_2406 : decode cL_law 2406 = .ok (.iadd, 1) := by decide +kernel
theorem dL_law_2407 : decode cL_law 2407 = .ok (.iaload, 1) := by decide +kernel
theorem dL_law_2408 : decode cL_law 2408 = .ok (.invokevirtual 259, 3) := by decide +kernel
theorem dL_law_2411 : decode cL_law 2411 = .ok (.istore 6, 2) := by decide +kernel
theorem dL_law_2413 : decode cL_law 2413 = .ok (.aload_n 2, 1) := by decide +kernel
theorem dL_law_2414 : decode cL_law 2414 = .ok (.invokevirtual 141, 3) := by decide +kernel
theorem dL_law_2417 : decode cL_law 2417 = .ok (.iload 5, 2) := by decide +kernel
theorem dL_law_2419 : decode cL_law 2419 = .ok (.if_icmp .eq 5, 3) := by decide +kernel
theorem dL_law_2422 : decode cL_law 2422 = .ok (.iconst 0, 1) := by decide +kernel
theorem dL_law_2423 : decode cL_law 2423 = .ok (.ireturn, 1) := by decide +kernel
theorem dL_law_2424 : decode cL_law 2424 = .ok (.iload 5, 2) := by decide +kernel
theorem dL_law_2426 : decode cL_law 2426 = .ok (.ifCond .ne 15, 3) := by decide +kernel
theorem dL_law_2429 : decode cL_law 2429 = .ok (.aload_n 3, 1) := by decide +kernel
theorem dL_law_2430 : decode cL_law 2430 = .ok (.iconst 0, 1) := by decide +kernel
theorem dL_law_2431 : decode cL_law 2431 = .ok (.laload, 1) := by decide +kernel
theorem dL_law_2432 : decode cL_law 2432 = .ok (.iload 6, 2) := by decide +kernel
theorem dL_law_2434 : decode cL_law 2434 = .ok (.i2l, 1) := by decide +kernel
theorem dL_law_2435 : decode cL_law 2435 = .ok (.lcmp, 1) := by decide +kernel
theorem dL_law_2436 : decode cL_law 2436 = .ok (.ifCond .eq 5, 3) := by decide +kernel
theorem dL_law_2439 : decode cL_law 2439 = .ok (.iconst 0, 1) := by decide +kernel
theorem dL_law_2440 : decode cL_law 2440 = .ok (.ireturn, 1) := by decide +kernel
theorem dL_law_2441 : decode cL_law 2441 = .ok (.goto 306, 3) := by decide +kernel
theorem dL_law_2444 : decode cL_law 2444 = .ok (.aload_n 1, 1) := by decide +kernel
theorem dL_law_2445 : decode cL_law 2445 = .ok (.aload_n 0, 1) := by decide +kernel
theorem dL_law_2446 : decode cL_law 2446 = .ok (.iload 4, 2) := by decide +kernel
theorem dL_law_2448 : decode cL_law 2448 = .ok (.iconst 1, 1) := by decide +kernel
theorem dL_law_2449 : decode cL_law 2449 = .ok (.iadd, 1) := by decide +kernel
theorem dL_law_2450 : decode cL_law 2450 = .ok (.iaload, 1) := by decide +kernel
theorem dL_law_2451 : decode cL_law 2451 = .ok (.aload_n 0, 1) := by decide +kernel
theorem dL_law_2452 : decode cL_law 2452 = .ok (.iload 4, 2) := by decide +kernel
theorem dL_law_2454 : decode cL_law 2454 = .ok (.iconst 2, 1) := by decide +kernel
theorem dL_law_2455 : decode cL_law 2455 = .ok (.iadd, 1) := by decide +kernel
theorem dL_law_2456 : decode cL_law 2456 = .ok (.iaload, 1) := by decide +kernel
theorem dL_law_2457 : decode cL_law 2457 = .ok (.aload_n 0, 1) := by decide +kernel
theorem dL_law_2458 : decode cL_law 2458 = .ok (.iload 4, 2) := by decide +kernel
theorem dL_law_2460 : decode cL_law 2460 = .ok (.iconst 3, 1) := by decide +kernel
theorem dL_law_2461 : decode cL_law 2461 = .ok (.iadd, 1) := by decide +kernel
theorem dL_law_2462 : decode cL_law 2462 = .ok (.iaload, 1) := by decide +kernel
theorem dL_law_2463 : decode cL_law 2463 = .ok (.aload_n 3, 1) := by decide +kernel
theorem dL_law_2464 : decode cL_law 2464 = .ok (.invokestatic 260, 3) := by decide +kernel
theorem dL_law_2467 : decode cL_law 2467 = .ok (.istore 5, 2) := by decide +kernel
theorem dL_law_2469 : decode cL_law 2469 = .ok (.aload_n 2, 1) := by decide +kernel
theorem dL_law_2470 : decode cL_law 2470 = .ok (.aload_n 0, 1) := by decide +kernel
theorem dL_law_2471 : decode cL_law 2471 = .ok (.iload 4, 2) := by decide +kernel
theorem dL_law_2473 : decode cL_law 2473 = .ok (.iconst 1, 1) := by decide +kernel
theorem dL_law_2474 : decode cL_law 2474 = .ok (.iadd, 1) := by decide +kernel
theorem dL_law_2475 : decode cL_law 2475 = .ok (.iaload, 1) := by decide +kernel
theorem dL_law_2476 : decode cL_law 2476 = .ok (.aload_n 0, 1) := by decide +kernel
theorem dL_law_2477 : decode cL_law 2477 = .ok (.iload 4, 2) := by decide +kernel
theorem dL_law_2479 : decode cL_law 2479 = .ok (.iconst 2, 1) := by decide +kernel
theorem dL_law_2480 : decode cL_law 2480 = .ok (.iadd, 1) := by decide +kernel
theorem dL_law_2481 : decode cL_law 2481 = .ok (.iaload, 1) := by decide +kernel
theorem dL_law_2482 : decode cL_law 2482 = .ok (.aload_n 0, 1) := by decide +kernel
theorem dL_law_2483 : decode cL_law 2483 = .ok (.iload 4, 2) := by decide +kernel
theorem dL_law_2485 : decode cL_law 2485 = .ok (.iconst 3, 1) := by decide +kernel
theorem dL_law_2486 : decode cL_law 2486 = .ok (.iadd, 1) := by decide +kernel
theorem dL_law_2487 : decode cL_law 2487 = .ok (.iaload, 1) := by decide +kernel
theorem dL_law_2488 : decode cL_law 2488 = .ok (.invokevirtual 262, 3) := by decide +kernel
theorem dL_law_2491 : decode cL_law 2491 = .ok (.istore 6, 2) := by decide +kernel
theorem dL_law_2493 : decode cL_law 2493 = .ok (.aload_n 2, 1) := by decide +kernel
theorem dL_law_2494 : decode cL_law 2494 = .ok (.invokevirtual 141, 3) := by decide +kernel
theorem dL_law_2497 : decode cL_law 2497 = .ok (.iload 5, 2) := by decide +kernel
theorem dL_law_2499 : decode cL_law 2499 = .ok (.if_icmp .eq 5, 3) := by decide +kernel
theorem dL_law_2502 : decode cL_law 2502 = .ok (.iconst 0, 1) := by decide +kernel
theorem dL_law_2503 : decode cL_law 2503 = .ok (.ireturn, 1) := by decide +kernel
theorem dL_law_2504 : decode cL_law 2504 = .ok (.iload 5, 2) := by decide +kernel
theorem dL_law_2506 : decode cL_law 2506 = .ok (.ifCond .ne 15, 3) := by decide +kernel
theorem dL_law_2509 : decode cL_law 2509 = .ok (.aload_n 3, 1) := by decide +kernel
theorem dL_law_2510 : decode cL_law 2510 = .ok (.iconst 0, 1) := by decide +kernel
theorem dL_law_2511 : decode cL_law 2511 = .ok (.laload, 1) := by decide +kernel
theorem dL_law_2512 : decode cL_law 2512 = .ok (.iload 6, 2) := by decide +kernel
theorem dL_law_2514 : decode cL_law 2514 = .ok (.i2l, 1) := by decide +kernel
theorem dL_law_2515 : decode cL_law 2515 = .ok (.lcmp, 1) := by decide +kernel
theorem dL_law_2516 : decode cL_law 2516 = .ok (.ifCond .eq 5, 3) := by decide +kernel
theorem dL_law_2519 : decode cL_law 2519 = .ok (.iconst 0, 1) := by decide +kernel
theorem dL_law_2520 : decode cL_law 2520 = .ok (.ireturn, 1) := by decide +kernel
theorem dL_law_2521 : decode cL_law 2521 = .ok (.goto 226, 3) := by decide +kernel
theorem dL_law_2524 : decode cL_law 2524 = .ok (.aload_n 1, 1) := by decide +kernel
theorem dL_law_2525 : decode cL_law 2525 = .ok (.aload_n 0, 1) := by decide +kernel
theorem dL_law_2526 : decode cL_law 2526 = .ok (.iload 4, 2) := by decide +kernel
theorem dL_law_2528 : decode cL_law 2528 = .ok (.iconst 1, 1) := by decide +kernel
theorem dL_law_2529 : decode cL_law 2529 = .ok (.iadd, 1) := by decide +kernel
theorem dL_law_2530 : decode cL_law 2530 = .ok (.iaload, 1) := by decide +kernel
theorem dL_law_2531 : decode cL_law 2531 = .ok (.aload_n 3, 1) := by decide +kernel
theorem dL_law_2532 : decode cL_law 2532 = .ok (.invokestatic 263, 3) := by decide +kernel
theorem dL_law_2535 : decode cL_law 2535 = .ok (.istore 5, 2) := by decide +kernel
theorem dL_law_2537 : decode cL_law 2537 = .ok (.aload_n 2, 1) := by decide +kernel
theorem dL_law_2538 : decode cL_law 2538 = .ok (.aload_n 0, 1) := by decide +kernel
theorem dL_law_2539 : decode cL_law 2539 = .ok (.iload 4, 2) := by decide +kernel
theorem dL_law_2541 : decode cL_law 2541 = .ok (.iconst 1, 1) := by decide +kernel
theorem dL_law_2542 : decode cL_law 2542 = .ok (.iadd, 1) := by decide +kernel
theorem dL_law_2543 : decode cL_law 2543 = .ok (.iaload, 1) := by decide +kernel
theorem dL_law_2544 : decode cL_law 2544 = .ok (.invokevirtual 265, 3) := by decide +kernel
theorem dL_law_2547 : decode cL_law 2547 = .ok (.istore 6, 2) := by decide +kernel
theorem dL_law_2549 : decode cL_law 2549 = .ok (.aload_n 2, 1) := by decide +kernel
theorem dL_law_2550 : decode cL_law 2550 = .ok (.invokevirtual 141, 3) := by decide +kernel
theorem dL_law_2553 : decode cL_law 2553 = .ok (.iload 5, 2) := by decide +kernel
theorem dL_law_2555 : decode cL_law 2555 = .ok (.if_icmp .eq 5, 3) := by decide +kernel
theorem dL_law_2558 : decode cL_law 2558 = .ok (.iconst 0, 1) := by decide +kernel
theorem dL_law_2559 : decode cL_law 2559 = .ok (.ireturn, 1) := by decide +kernel
theorem dL_law_2560 : decode cL_law 2560 = .ok (.iload 5, 2) := by decide +kernel
theorem dL_law_2562 : decode cL_law 2562 = .ok (.ifCond .ne 15, 3) := by decide +kernel
theorem dL_law_2565 : decode cL_law 2565 = .ok (.aload_n 3, 1) := by decide +kernel
theorem dL_law_2566 : decode cL_law 2566 = .ok (.iconst 0, 1) := by decide +kernel
theorem dL_law_2567 : decode cL_law 2567 = .ok (.laload, 1) := by decide +kernel
theorem dL_law_2568 : decode cL_law 2568 = .ok (.iload 6, 2) := by decide +kernel
theorem dL_law_2570 : decode cL_law 2570 = .ok (.i2l, 1) := by decide +kernel
theorem dL_law_2571 : decode cL_law 2571 = .ok (.lcmp, 1) := by decide +kernel
theorem dL_law_2572 : decode cL_law 2572 = .ok (.ifCond .eq 5, 3) := by decide +kernel
theorem dL_law_2575 : decode cL_law 2575 = .ok (.iconst 0, 1) := by decide +kernel
theorem dL_law_2576 : decode cL_law 2576 = .ok (.ireturn, 1) := by decide +kernel
theorem dL_law_2577 : decode cL_law 2577 = .ok (.goto 170, 3) := by decide +kernel
theorem dL_law_2580 : decode cL_law 2580 = .ok (.aload_n 1, 1) := by decide +kernel
theorem dL_law_2581 : decode cL_law 2581 = .ok (.aload_n 0, 1) := by decide +kernel
theorem dL_law_2582 : decode cL_law 2582 = .ok (.iload 4, 2) := by decide +kernel
theorem dL_law_2584 : decode cL_law 2584 = .ok (.iconst 1, 1) := by decide +kernel
theorem dL_law_2585 : decode cL_law 2585 = .ok (.iadd, 1) := by decide +kernel
theorem dL_law_2586 : decode cL_law 2586 = .ok (.iaload, 1) := by decide +kernel
theorem dL_law_2587 : decode cL_law 2587 = .ok (.aload_n 3, 1) := by decide +kernel
theorem dL_law_2588 : decode cL_law 2588 = .ok (.invokestatic 266, 3) := by decide +kernel
theorem dL_law_2591 : decode cL_law 2591 = .ok (.istore 5, 2) := by decide +kernel
theorem dL_law_2593 : decode cL_law 2593 = .ok (.aload_n 2, 1) := by decide +kernel
theorem dL_law_2594 : decode cL_law 2594 = .ok (.aload_n 0, 1) := by decide +kernel
theorem dL_law_2595 : decode cL_law 2595 = .ok (.iload 4, 2) := by decide +kernel
theorem dL_law_2597 : decode cL_law 2597 = .ok (.iconst 1, 1) := by decide +kernel
theorem dL_law_2598 : decode cL_law 2598 = .ok (.iadd, 1) := by decide +kernel
theorem dL_law_2599 : decode cL_law 2599 = .ok (.iaload, 1) := by decide +kernel
theorem dL_law_2600 : decode cL_law 2600 = .ok (.invokevirtual 268, 3) := by decide +kernel
theorem dL_law_2603 : decode cL_law 2603 = .ok (.istore 6, 2) := by decide +kernel
theorem dL_law_2605 : decode cL_law 2605 = .ok (.aload_n 2, 1) := by decide +kernel
theorem dL_law_2606 : decode cL_law 2606 = .ok (.invokevirtual 141, 3) := by decide +kernel
theorem dL_law_2609 : decode cL_law 2609 = .ok (.iload 5, 2) := by decide +kernel
theorem dL_law_2611 : decode cL_law 2611 = .ok (.if_icmp .eq 5, 3) := by decide +kernel
theorem dL_law_2614 : decode cL_law 2614 = .ok (.iconst 0, 1) := by decide +kernel
theorem dL_law_2615 : decode cL_law 2615 = .ok (.ireturn, 1) := by decide +kernel
theorem dL_law_2616 : decode cL_law 2616 = .ok (.iload 5, 2) := by decide +kernel
theorem dL_law_2618 : decode cL_law 2618 = .ok (.ifCond .ne 15, 3) := by decide +kernel
theorem dL_law_2621 : decode cL_law 2621 = .ok (.aload_n 3, 1) := by decide +kernel
theorem dL_law_2622 : decode cL_law 2622 = .ok (.iconst 0, 1) := by decide +kernel
theorem dL_law_2623 : decode cL_law 2623 = .ok (.laload, 1) := by decide +kernel
theorem dL_law_2624 : decode cL_law 2624 = .ok (.iload 6, 2) := by decide +kernel
theorem dL_law_2626 : decode cL_law 2626 = .ok (.i2l, 1) := by decide +kernel
theorem dL_law_2627 : decode cL_law 2627 = .ok (.lcmp, 1) := by decide +kernel
theorem dL_law_2628 : decode cL_law 2628 = .ok (.ifCond .eq 5, 3) := by decide +kernel
theorem dL_law_2631 : decode cL_law 2631 = .ok (.iconst 0, 1) := by decide +kernel
theorem dL_law_2632 : decode cL_law 2632 = .ok (.ireturn, 1) := by decide +kernel
theorem dL_law_2633 : decode cL_law 2633 = .ok (.goto 114, 3) := by decide +kernel
theorem dL_law_2636 : decode cL_law 2636 = .ok (.aload_n 1, 1) := by decide +kernel
theorem dL_law_2637 : decode cL_law 2637 = .ok (.invokevirtual 269, 3) := by decide +kernel
theorem dL_law_2640 : decode cL_law 2640 = .ok (.aload_n 2, 1) := by decide +kernel
theorem dL_law_2641 : decode cL_law 2641 = .ok (.invokevirtual 272, 3) := by decide +kernel
theorem dL_law_2644 : decode cL_law 2644 = .ok (.if_icmp .eq 103, 3) := by decide +kernel
theorem dL_law_2647 : decode cL_law 2647 = .ok (.iconst 0, 1) := by decide +kernel
theorem dL_law_2648 : decode cL_law 2648 = .ok (.ireturn, 1) := by decide +kernel
theorem dL_law_2649 : decode cL_law 2649 = .ok (.aload_n 1, 1) := by decide +kernel
theorem dL_law_2650 : decode cL_law 2650 = .ok (.invokevirtual 273, 3) := by decide +kernel
theorem dL_law_2653 : decode cL_law 2653 = .ok (.aload_n 2, 1) := by decide +kernel
theorem dL_law_2654 : decode cL_law 2654 = .ok (.invokevirtual 276, 3) := by decide +kernel
theorem dL_law_2657 : decode cL_law 2657 = .ok (.if_icmp .eq 90, 3) := by decide +kernel
theorem dL_law_2660 : decode cL_law 2660 = .ok (.iconst 0, 1) := by decide +kernel
theorem dL_law_2661 : decode cL_law 2661 = .ok (.ireturn, 1) := by decide +kernel
theorem dL_law_2662 : decode cL_law 2662 = .ok (.aload_n 1, 1) := by decide +kernel
theorem dL_law_2663 : decode cL_law 2663 = .ok (.invokevirtual 277, 3) := by decide +kernel
theorem dL_law_2666 : decode cL_law 2666 = .ok (.aload_n 2, 1) := by decide +kernel
theorem dL_law_2667 : decode cL_law 2667 = .ok (.invokevirtual 280, 3) := by decide +kernel
theorem dL_law_2670 : decode cL_law 2670 = .ok (.if_icmp .eq 77, 3) := by decide +kernel
theorem dL_law_2673 : decode cL_law 2673 = .ok (.iconst 0, 1) := by decide +kernel
theorem dL_law_2674 : decode cL_law 2674 = .ok (.ireturn, 1) := by decide +kernel
theorem dL_law_2675 : decode cL_law 2675 = .ok (.aload_n 1, 1) := by decide +kernel
theorem dL_law_2676 : decode cL_law 2676 = .ok (.aload_n 0, 1) := by decide +kernel
theorem dL_law_2677 : decode cL_law 2677 = .ok (.iload 4, 2) := by decide +kernel
theorem dL_law_2679 : decode cL_law 2679 = .ok (.iconst 1, 1) := by decide +kernel
theorem dL_law_2680 : decode cL_law 2680 = .ok (.iadd, 1) := by decide +kernel
theorem dL_law_2681 : decode cL_law 2681 = .ok (.iaload, 1) := by decide +kernel
theorem dL_law_2682 : decode cL_law 2682 = .ok (.invokestatic 281, 3) := by decide +kernel
theorem dL_law_2685 : decode cL_law 2685 = .ok (.istore 5, 2) := by decide +kernel
theorem dL_law_2687 : decode cL_law 2687 = .ok (.aload_n 2, 1) := by decide +kernel
theorem dL_law_2688 : decode cL_law 2688 = .ok (.aload_n 0, 1) := by decide +kernel
theorem dL_law_2689 : decode cL_law 2689 = .ok (.iload 4, 2) := by decide +kernel
theorem dL_law_2691 : decode cL_law 2691 = .ok (.iconst 1, 1) := by decide +kernel
theorem dL_law_2692 : decode cL_law 2692 = .ok (.iadd, 1) := by decide +kernel
theorem dL_law_2693 : decode cL_law 2693 = .ok (.iaload, 1) := by decide +kernel
theorem dL_law_2694 : decode cL_law 2694 = .ok (.invokevirtual 284, 3) := by decide +kernel
theorem dL_law_2697 : decode cL_law 2697 = .ok (.aload_n 2, 1) := by decide +kernel
theorem dL_law_2698 : decode cL_law 2698 = .ok (.invokevirtual 141, 3) := by decide +kernel
theorem dL_law_2701 : decode cL_law 2701 = .ok (.iload 5, 2) := by decide +kernel
theorem dL_law_2703 : decode cL_law 2703 = .ok (.if_icmp .eq 5, 3) := by decide +kernel
theorem dL_law_2706 : decode cL_law 2706 = .ok (.iconst 0, 1) := by decide +kernel
theorem dL_law_2707 : decode cL_law 2707 = .ok (.ireturn, 1) := by decide +kernel
theorem dL_law_2708 : decode cL_law 2708 = .ok (.goto 39, 3) := by decide +kernel
theorem dL_law_2711 : decode cL_law 2711 = .ok (.aload_n 1, 1) := by decide +kernel
theorem dL_law_2712 : decode cL_law 2712 = .ok (.aload_n 0, 1) := by decide +kernel
theorem dL_law_2713 : decode cL_law 2713 = .ok (.iload 4, 2) := by decide +kernel
theorem dL_law_2715 : decode cL_law 2715 = .ok (.iconst 1, 1) := by decide +kernel
theorem dL_law_2716 : decode cL_law 2716 = .ok (.iadd, 1) := by decide +kernel
theorem dL_law_2717 : decode cL_law 2717 = .ok (.iaload, 1) := by decide +kernel
theorem dL_law_2718 : decode cL_law 2718 = .ok (.invokestatic 285, 3) := by decide +kernel
theorem dL_law_2721 : decode cL_law 2721 = .ok (.istore 5, 2) := by decide +kernel
theorem dL_law_2723 : decode cL_law 2723 = .ok (.aload_n 2, 1) := by decide +kernel
theorem dL_law_2724 : decode cL_law 2724 = .ok (.aload_n 0, 1) := by decide +kernel
theorem dL_law_2725 : decode cL_law 2725 = .ok (.iload 4, 2) := by decide +kernel
theorem dL_law_2727 : decode cL_law 2727 = .ok (.iconst 1, 1) := by decide +kernel
theorem dL_law_2728 : decode cL_law 2728 = .ok (.iadd, 1) := by decide +kernel
theorem dL_law_2729 : decode cL_law 2729 = .ok (.iaload, 1) := by decide +kernel
theorem dL_law_2730 : decode cL_law 2730 = .ok (.invokevirtual 287, 3) := by decide +kernel
theorem dL_law_2733 : decode cL_law 2733 = .ok (.aload_n 2, 1) := by decide +kernel
theorem dL_law_2734 : decode cL_law 2734 = .ok (.invokevirtual 141, 3) := by decide +kernel
theorem dL_law_2737 : decode cL_law 2737 = .ok (.iload 5, 2) := by decide +kernel
theorem dL_law_2739 : decode cL_law 2739 = .ok (.if_icmp .eq 5, 3) := by decide +kernel
theorem dL_law_2742 : decode cL_law 2742 = .ok (.iconst 0, 1) := by decide +kernel
theorem dL_law_2743 : decode cL_law 2743 = .ok (.ireturn, 1) := by decide +kernel
theorem dL_law_2744 : decode cL_law 2744 = .ok (.goto 3, 3) := by decide +kernel
theorem dL_law_2747 : decode cL_law 2747 = .ok (.iinc 4 4, 3) := by decide +kernel
theorem dL_law_2750 : decode cL_law 2750 = .ok (.goto (-2727), 3) := by decide +kernel
theorem dL_law_2753 : decode cL_law 2753 = .ok (.iconst 1, 1) := by decide +kernel
theorem dL_law_2754 : decode cL_law 2754 = .ok (.ireturn, 1) := by decide +kernel
