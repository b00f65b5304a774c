theorem dL_law_2099 : decode cL_law 2099 = .ok (.iaload, 1) := by decide +kernel
theorem dL_law_2100 : decode cL_law 2100 = .ok (.aload_n 0, 1) := by decide +kernel
theorem dL_law_2101 : decode cL_law 2101 = .ok (.iload 4, 2) := by decide +kernel
theorem dL_law_2103 : decode cL_law 2103 = .ok (.iconst 2, 1) := by decide +kernel
theorem dL_law_2104 : decode cL_law 2104 = .ok (.iadd, 1) := by decide +kernel
theorem dL_law_2105 : decode cL_law 2105 = .ok (.iaload, 1) := by decide +kernel
theorem dL_law_2106 : decode cL_law 2106 = .ok (.aload_n 3, 1) := by decide +kernel
theorem dL_law_2107 : decode cL_law 2107 = .ok (.invokestatic 234, 3) := by decide +kernel
theorem dL_law_2110 : decode cL_law 2110 = .ok (.istore 5, 2) := by decide +kernel
theorem dL_law_2112 : decode cL_law 2112 = .ok (.aload_n 2, 1) := by decide +kernel
theorem dL_law_2113 : decode cL_law 2113 = .ok (.aload_n 0, 1) := by decide +kernel
theorem dL_law_2114 : decode cL_law 2114 = .ok (.iload 4, 2) := by decide +kernel
theorem dL_law_2116 : decode cL_law 2116 = .ok (.iconst 1, 1) := by decide +kernel
theorem dL_law_2117 : decode cL_law 2117 = .ok (.iadd, 1) := by decide +kernel
theorem dL_law_2118 : decode cL_law 2118 = .ok (.iaload, 1) := by decide +kernel
theorem dL_law_2119 : decode cL_law 2119 = .ok (.aload_n 0, 1) := by decide +kernel
theorem dL_law_2120 : decode cL_law 2120 = .ok (.iload 4, 2) := by decide +kernel
theorem dL_law_2122 : decode cL_law 2122 = .ok (.iconst 2, 1) := by decide +kernel
theorem dL_law_2123 : decode cL_law 2123 = .ok (.iadd, 1) := by decide +kernel
theorem dL_law_2124 : decode cL_law 2124 = .ok (.iaload, 1) := by decide +kernel
theorem dL_law_2125 : decode cL_law 2125 = .ok (.invokevirtual 236, 3) := by decide +kernel
theorem dL_law_2128 : decode cL_law 2128 = .ok (.istore 6, 2) := by decide +kernel
theorem dL_law_2130 : decode cL_law 2130 = .ok (.aload_n 2, 1) := by decide +kernel
theorem dL_law_2131 : decode cL_law 2131 = .ok (.invokevirtual 137, 3) := by decide +kernel
theorem dL_law_2134 : decode cL_law 2134 = .ok (.iload 5, 2) := by decide +kernel
theorem dL_law_2136 : decode cL_law 2136 = .ok (.if_icmp .eq 5, 3) := by decide +kernel
theorem dL_law_2139 : decode cL_law 2139 = .ok (.iconst 0, 1) := by decide +kernel
theorem dL_law_2140 : decode cL_law 2140 = .ok (.ireturn, 1) := by decide +kernel
theorem dL_law_2141 : decode cL_law 2141 = .ok (.iload 5, 2) := by decide +kernel
theorem dL_law_2143 : decode cL_law 2143 = .ok (.ifCond .ne 15, 3) := by decide +kernel
theorem dL_law_2146 : decode cL_law 2146 = .ok (.aload_n 3, 1) := by decide +kernel
theorem dL_law_2147 : decode cL_law 2147 = .ok (.iconst 0, 1) := by decide +kernel
theorem dL_law_2148 : decode cL_law 2148 = .ok (.laload, 1) := by decide +kernel
theorem dL_law_2149 : decode cL_law 2149 = .ok (.iload 6, 2) := by decide +kernel
theorem dL_law_2151 : decode cL_law 2151 = .ok (.i2l, 1) := by decide +kernel
theorem dL_law_2152 : decode cL_law 2152 = .ok (.lcmp, 1) := by decide +kernel
theorem dL_law_2153 : decode cL_law 2153 = .ok (.ifCond .eq 5, 3) := by decide +kernel
theorem dL_law_2156 : decode cL_law 2156 = .ok (.iconst 0, 1) := by decide +kernel
theorem dL_law_2157 : decode cL_law 2157 = .ok (.ireturn, 1) := by decide +kernel
theorem dL_law_2158 : decode cL_law 2158 = .ok (.goto 548, 3) := by decide +kernel
theorem dL_law_2161 : decode cL_law 2161 = .ok (.aload_n 1, 1) := by decide +kernel
theorem dL_law_2162 : decode cL_law 2162 = .ok (.aload_n 0, 1) := by decide +kernel
theorem dL_law_2163 : decode cL_law 2163 = .ok (.iload 4, 2) := by decide +kernel
theorem dL_law_2165 : decode cL_law 2165 = .ok (.iconst 1, 1) := by decide +kernel
theorem dL_law_2166 : decode cL_law 2166 = .ok (.iadd, 1) := by decide +kernel
theorem dL_law_2167 : decode cL_law 2167 = .ok (.iaload, 1) := by decide +kernel
theorem dL_law_2168 : decode cL_law 2168 = .ok (.aload_n 3, 1) := by decide +kernel
theorem dL_law_2169 : decode cL_law 2169 = .ok (.invokestatic 237, 3) := by decide +kernel
theorem dL_law_2172 : decode cL_law 2172 = .ok (.istore 5, 2) := by decide +kernel
theorem dL_law_2174 : decode cL_law 2174 = .ok (.aload_n 2, 1) := by decide +kernel
theorem dL_law_2175 : decode cL_law 2175 = .ok (.aload_n 0, 1) := by decide +kernel
theorem dL_law_2176 : decode cL_law 2176 = .ok (.iload 4, 2) := by decide +kernel
theorem dL_law_2178 : decode cL_law 2178 = .ok (.iconst 1, 1) := by decide +kernel
theorem dL_law_2179 : decode cL_law 2179 = .ok (.iadd, 1) := by decide +kernel
theorem dL_law_2180 : decode cL_law 2180 = .ok (.iaload, 1) := by decide +kernel
theorem dL_law_2181 : decode cL_law 2181 = .ok (.invokevirtual 239, 3) := by decide +kernel
theorem dL_law_2184 : decode cL_law 2184 = .ok (.istore 6, 2) := by decide +kernel
theorem dL_law_2186 : decode cL_law 2186 = .ok (.aload_n 2, 1) := by decide +kernel
theorem dL_law_2187 : decode cL_law 2187 = .ok (.invokevirtual 137, 3) := by decide +kernel
theorem dL_law_2190 : decode cL_law 2190 = .ok (.iload 5, 2) := by decide +kernel
theorem dL_law_2192 : decode cL_law 2192 = .ok (.if_icmp .eq 5, 3) := by decide +kernel
theorem dL_law_2195 : decode cL_law 2195 = .ok (.iconst 0, 1) := by decide +kernel
theorem dL_law_2196 : decode cL_law 2196 = .ok (.ireturn, 1) := by decide +kernel
theorem dL_law_2197 : decode cL_law 2197 = .ok (.iload 5, 2) := by decide +kernel
theorem dL_law_2199 : decode cL_law 2199 = .ok (.ifCond .ne 15, 3) := by decide +kernel
theorem dL_law_2202 : decode cL_law 2202 = .ok (.aload_n 3, 1) := by decide +kernel
theorem dL_law_2203 : decode cL_law 2203 = .ok (.iconst 0, 1) := by decide +kernel
theorem dL_law_2204 : decode cL_law 2204 = .ok (.laload, 1) := by decide +kernel
theorem dL_law_2205 : decode cL_law 2205 = .ok (.iload 6, 2) := by decide +kernel
theorem dL_law_2207 : decode cL_law 2207 = .ok (.i2l, 1) := by decide +kernel
theorem dL_law_2208 : decode cL_law 2208 = .ok (.lcmp, 1) := by decide +kernel
theorem dL_law_2209 : decode cL_law 2209 = .ok (.ifCond .eq 5, 3) := by decide +kernel
theorem dL_law_2212 : decode cL_law 2212 = .ok (.iconst 0, 1) := by decide +kernel
theorem dL_law_2213 : decode cL_law 2213 = .ok (.ireturn, 1) := by decide +kernel
theorem dL_law_2214 : decode cL_law 2214 = .ok (.goto 492, 3) := by decide +kernel
theorem dL_law_2217 : decode cL_law 2217 = .ok (.aload_n 1, 1) := by decide +kernel
theorem dL_law_2218 : decode cL_law 2218 = .ok (.invokevirtual 240, 3) := by decide +kernel
theorem dL_law_2221 : decode cL_law 2221 = .ok (.aload_n 2, 1) := by decide +kernel
theorem dL_law_2222 : decode cL_law 2222 = .ok (.invokevirtual 243, 3) := by decide +kernel
theorem dL_law_2225 : decode cL_law 2225 = .ok (.if_icmp .eq 481, 3) := by decide +kernel
theorem dL_law_2228 : decode cL_law 2228 = .ok (.iconst 0, 1) := by decide +kernel
theorem dL_law_2229 : decode cL_law 2229 = .ok (.ireturn, 1) := by decide +kernel
theorem dL_law_2230 : decode cL_law 2230 = .ok (.aload_n 1, 1) := by decide +kernel
theorem dL_law_2231 : decode cL_law 2231 = .ok (.aload_n 0, 1) := by decide +kernel
theorem dL_law_2232 : decode cL_law 2232 = .ok (.iload 4, 2) := by decide +kernel
theorem dL_law_2234 : decode cL_law 2234 = .ok (.iconst 1, 1) := by decide +kernel
theorem dL_law_2235 : decode cL_law 2235 = .ok (.iadd, 1) := by decide +kernel
theorem dL_law_2236 : decode cL_law 2236 = .ok (.iaload, 1) := by decide +kernel
theorem dL_law_2237 : decode cL_law 2237 = .ok (.aload_n 3, 1) := by decide +kernel
theorem dL_law_2238 : decode cL_law 2238 = .ok (.invokestatic 244, 3) := by decide +kernel
theorem dL_law_2241 : decode cL_law 2241 = .ok (.istore 5, 2) := by decide +kernel
theorem dL_law_2243 : decode cL_law 2243 = .ok (.aload_n 2, 1) := by decide +kernel
theorem dL_law_2244 : decode cL_law 2244 = .ok (.aload_n 0, 1) := by decide +kernel
theorem dL_law_2245 : decode cL_law 2245 = .ok (.iload 4, 2) := by decide +kernel
theorem dL_law_2247 : decode cL_law 2247 = .ok (.iconst 1, 1) := by decide +kernel
theorem dL_law_2248 : decode cL_law 2248 = .ok (.iadd, 1) := by decide +kernel
theorem dL_law_2249 : decode cL_law 2249 = .ok (.iaload, 1) := by decide +kernel
theorem dL_law_2250 : decode cL_law 2250 = .ok (.invokevirtual 246, 3) := by decide +kernel
theorem dL_law_2253 : decode cL_law 2253 = .ok (.istore 6, 2) := by decide +kernel
theorem dL_law_2255 : decode cL_law 2255 = .ok (.aload_n 2, 1) := by decide +kernel
theorem dL_law_2256 : decode cL_law 2256 = .ok (.invokevirtual 137, 3) := by decide +kernel
theorem dL_law_2259 : decode cL_law 2259 = .ok (.iload 5, 2) := by decide +kernel
theorem dL_law_2261 : decode cL_law 2261 = .ok (.if_icmp .eq 5, 3) := by decide +kernel
theorem dL_law_2264 : decode cL_law 2264 = .ok (.iconst 0, 1) := by decide +kernel
theorem dL_law_2265 : decode cL_law 2265 = .ok (.ireturn, 1) := by decide +kernel
theorem dL_law_2266 : decode cL_law 2266 = .ok (.iload 5, 2) := by decide +kernel
theorem dL_law_2268 : decode cL_law 2268 = .ok (.ifCond .ne 15, 3) := by decide +kernel
theorem dL_law_2271 : decode cL_law 2271 = .ok (.aload_n 3, 1) := by decide +kernel
theorem dL_law_2272 : decode cL_law 2272 = .ok (.iconst 0, 1) := by decide +kernel
theorem dL_law_2273 : decode cL_law 2273 = .ok (.laload, 1) := by decide +kernel
theorem dL_law_2274 : decode cL_law 2274 = .ok (.iload 6, 2) := by decide +kernel
theorem dL_law_2276 : decode cL_law 2276 = .ok (.i2l, 1) := by decide +kernel
theorem dL_law_2277 : decode cL_law 2277 = .ok (.lcmp, 1) := by decide +kernel
theorem dL_law_2278 : decode cL_law 2278 = .ok (.ifCond .eq 5, 3) := by decide +kernel
theorem dL_law_2281 : decode cL_law 2281 = .ok (.iconst 0, 1) := by decide +kernel
theorem dL_law_2282 : decode cL_law 2282 = .ok (.ireturn, 1) := by decide +kernel
theorem dL_law_2283 : decode cL_law 2283 = .ok (.goto 423, 3) := by decide +kernel
theorem dL_law_2286 : decode cL_law 2286 = .ok (.aload_n 1, 1) := by decide +kernel
theorem dL_law_2287 : decode cL_law 2287 = .ok (.aload_n 0, 1) := by decide +kernel
theorem dL_law_2288 : decode cL_law 2288 = .ok (.iload 4, 2) := by decide +kernel
theorem dL_law_2290 : decode cL_law 2290 = .ok (.iconst 1, 1) := by decide +kernel
theorem dL_law_2291 : decode cL_law 2291 = .ok (.iadd, 1) := by decide +kernel
theorem dL_law_2292 : decode cL_law 2292 = .ok (.iaload, 1) := by decide +kernel
theorem dL_law_2293 : decode cL_law 2293 = .ok (.aload_n 0, 1) := by decide +kernel
theorem dL_law_2294 : decode cL_law 2294 = .ok (.iload 4, 2) := by decide +kernel
theorem dL_law_2296 : decode cL_law 2296 = .ok (.iconst 2, 1) := by decide +kernel
theorem dL_law_2297 : decode cL_law 2297 = .ok (.iadd, 1) := by decide +kernel
theorem dL_law_2298 : decode cL_law 2298 = .ok (.iaload, 1) := by decide +kernel
theorem dL_law_2299 : decode cL_law 2299 = .ok (.aload_n 3, 1) := by decide +kernel
theorem dL_law_2300 : decode cL_law 2300 = .ok (.invokestatic 247, 3) := by decide +kernel
theorem dL_law_2303 : decode cL_law 2303 = .ok (.istore 5, 2) := by decide +kernel
theorem dL_law_2305 : decode cL_law 2305 = .ok (.aload_n 2, 1) := by decide +kernel
theorem dL_law_2306 : decode cL_law 2306 = .ok (.aload_n 0, 1) := by decide +kernel
theorem dL_law_2307 : decode cL_law 2307 = .ok (.iload 4, 2) := by decide +kernel
theorem dL_law_2309 : decode cL_law 2309 = .ok (.iconst 1, 1) := by decide +kernel
theorem dL_law_2310 : decode cL_law 2310 = .ok (.iadd, 1) := by decide +kernel
theorem dL_law_2311 : decode cL_law 2311 = .ok (.iaload, 1) := by decide +kernel
theorem dL_law_2312 : decode cL_law 2312 = .ok (.aload_n 0, 1) := by decide +kernel
theorem dL_law_2313 : decode cL_law 2313 = .ok (.iload 4, 2) := by decide +kernel
theorem dL_law_2315 : decode cL_law 2315 = .ok (.iconst 2, 1) := by decide +kernel
theorem dL_law_2316 : decode cL_law 2316 = .ok (.iadd, 1) := by decide +kernel
theorem dL_law_2317 : decode cL_law 2317 = .ok (.iaload, 1) := by decide +kernel
theorem dL_law_2318 : decode cL_law 2318 = .ok (.invokevirtual 249, 3) := by decide +kernel
theorem dL_law_2321 : decode cL_law 2321 = .ok (.istore 6, 2) := by decide +kernel
theorem dL_law_2323 : decode cL_law 2323 = .ok (.aload_n 2, 1) := by decide +kernel
theorem dL_law_2324 : decode cL_law 2324 = .ok (.invokevirtual 137, 3) := by decide +kernel
theorem dL_law_2327 : decode cL_law 2327 = .ok (.iload 5, 2) := by decide +kernel
theorem dL_law_2329 : decode cL_law 2329 = .ok (.if_icmp .eq 5, 3) := by decide +kernel
theorem dL_law_2332 : decode cL_law 2332 = .ok (.iconst 0, 1) := by decide +kernel
theorem dL_law_2333 : decode cL_law 2333 = .ok (.ireturn, 1) := by decide +kernel
theorem dL_law_2334 : decode cL_law 2334 = .ok (.iload 5, 2) := by decide +kernel
theorem dL_law_2336 : decode cL_law 2336 = .ok (.ifCond .ne 15, 3) := by decide +kernel
theorem dL_law_2339 : decode cL_law 2339 = .ok (.aload_n 3, 1) := by decide +kernel
theorem dL_law_2340 : decode cL_law 2340 = .ok (.iconst 0, 1) := by decide +kernel
theorem dL_law_2341 : decode cL_law 2341 = .ok (.laload, 1) := by decide +kernel
theorem dL_law_2342 : decode cL_law 2342 = .ok (.iload 6, 2) := by decide +kernel
theorem dL_law_2344 : decode cL_law 2344 = .ok (.i2l, 1) := by decide +kernel
theorem dL_law_2345 : decode cL_law 2345 = .ok (.lcmp, 1) := by decide +kernel
theorem dL_law_2346 : decode cL_law 2346 = .ok (.ifCond .eq 5, 3) := by decide +kernel
theorem dL_law_2349 : decode cL_law 2349 = .ok (.iconst 0, 1) := by decide +kernel
theorem dL_law_2350 : decode cL_law 2350 = .ok (.ireturn, 1) := by decide +kernel
theorem dL_law_2351 : decode cL_law 2351 = .ok (.goto 355, 3) := by decide +kernel
theorem dL_law_2354 : decode cL_law 2354 = .ok (.aload_n 1, 1) := by decide +kernel
theorem dL_law_2355 : decode cL_law 2355 = .ok (.aload_n 0, 1) := by decide +kernel
theorem dL_law_2356 : decode cL_law 2356 = .ok (.iload 4, 2) := by decide +kernel
theorem dL_law_2358 : decode cL_law 2358 = .ok (.iconst 1, 1) := by decide +kernel
theorem dL_law_2359 : decode cL_law 2359 = .ok (.iadd, 1) := by decide +kernel
theorem dL_law_2360 : decode cL_law 2360 = .ok (.iaload, 1) := by decide +kernel
theorem dL_law_2361 : decode cL_law 2361 = .ok (.aload_n 0, 1) := by decide +kernel
theorem dL_law_2362 : decode cL_law 2362 = .ok (.iload 4, 2) := by decide +kernel
theorem dL_law_2364 : decode cL_law 2364 = .ok (.iconst 2, 1) := by decide +kernel
theorem dL_law_2365 : decode cL_law 2365 = .ok (.iadd, 1) := by decide +kernel
theorem dL_law_2366 : decode cL_law 2366 = .ok (.iaload, 1) := by decide +kernel
theorem dL_law_2367 : decode cL_law 2367 = .ok (.aload_n 3, 1) := by decide +kernel
theorem dL_law_2368 : decode cL_law 2368 = .ok (.invokestatic 250, 3) := by decide +kernel
theorem dL_law_2371 : decode cL_law 2371 = .ok (.istore 5, 2) := by decide +kernel
theorem dL_law_2373 : decode cL_law 2373 = .ok (.aload_n 2, 1) := by decide +kernel
theorem dL_law_2374 : decode cL_law 2374 = .ok (.aload_n 0, 1) := by decide +kernel
theorem dL_law_2375 : decode cL_law 2375 = .ok (.iload 4, 2) := by decide +kernel
theorem dL_law_2377 : decode cL_law 2377 = .ok (.iconst 1, 1) := by decide +kernel
theorem dL_law_2378 : decode cL_law 2378 = .ok (.iadd, 1) := by decide +kernel
theorem dL_law_2379 : decode cL_law 2379 = .ok (.iaload, 1) := by decide +kernel
theorem dL_law_2380 : decode cL_law 2380 = .ok (.aload_n 0, 1) := by decide +kernel
theorem dL_law_2381 : decode cL_law 2381 = .ok (.iload 4, 2) := by decide +kernel
theorem dL_law_2383 : decode cL_law 2383 = .ok (.iconst 2, 1) := by decide +kernel
theorem dL_law_2384 : decode cL_law 2384 = .ok (.iadd, 1) := by decide +kernel
theorem dL_law_2385 : decode cL_law 2385 = .ok (.iaload, 1) := by decide +kernel
theorem dL_law_2386 : decode cL_law 2386 = .ok (.invokevirtual 252, 3) := by decide +kernel
theorem dL_law_2389 : decode cL_law 2389 = .ok (.istore 6, 2) := by decide +kernel
theorem dL_law_2391 : decode cL_law 2391 = .ok (.aload_n 2, 1) := by decide +kernel
theorem dL_law_2392 : decode cL_law 2392 = .ok (.invokevirtual 137, 3) := by decide +kernel
theorem dL_law_2395 : decode cL_law 2395 = .ok (.iload 5, 2) := by decide +kernel
theorem dL_law_2397 : decode cL_law 2397 = .ok (.if_icmp .eq 5, 3) := by decide +kernel
theorem dL_law_2400 : decode cL_law 2400 = .ok (.iconst 0, 1) := by decide +kernel
theorem dL_law_2401 : decode cL_law 2401 = .ok (.ireturn, 1) := by decide +kernel
theorem dL_law_2402 : decode cL_law 2402 = .ok (.iload 5, 2) := by decide +kernel
theorem dL_law_2404 : decode cL_law 2404 = .ok (.ifCond .ne 15, 3) := by decide +kernel
theorem dL_law_2407 : decode cL_law 2407 = .ok (.aload_n 3, 1) := by decide +kernel
theorem dL_law_2408 : decode cL_law 2408 = .ok (.iconst 0, 1) := by decide +kernel
theorem dL_law_2409 : decode cL_law 2409 = .ok (.laload, 1) := by decide +kernel
theorem dL_law_2410 : decode cL_law 2410 = .ok (.iload 6, 2) := by decide +kernel
theorem dL_law_2412 : decode cL_law 2412 = .ok (.i2l, 1) := by decide +kernel
theorem dL_law_2413 : decode cL_law 2413 = .ok (.lcmp, 1) := by decide +kernel
theorem dL_law_2414 : decode cL_law 2414 = .ok (.ifCond .eq 5, 3) := by decide +kernel
theorem dL_law_2417 : decode cL_law 2417 = .ok (.iconst 0, 1) := by decide +kernel
theorem dL_law_2418 : decode cL_law 2418 = .ok (.ireturn, 1) := by decide +kernel
theorem dL_law_2419 : decode cL_law 2419 = .ok (.goto 287, 3) := by decide +kernel
theorem dL_law_2422 : decode cL_law 2422 = .ok (.aload_n 1, 1) := by decide +kernel
theorem dL_law_2423 : decode cL_law 2423 = .ok (.aload_n 0, 1) := by decide +kernel
theorem dL_law_2424 : decode cL_law 2424 = .ok (.iload 4, 2) := by decide +kernel
theorem dL_law_2426 : decode cL_law 2426 = .ok (.iconst 1, 1) := by decide +kernel
theorem dL_law_2427 : decode cL_law 2427 = .ok (.iadd, 1) := by decide +kernel
theorem dL_law_2428 : decode cL_law 2428 = .ok (.iaload, 1) := by decide +kernel
theorem dL_law_2429 : decode cL_law 2429 = .ok (.aload_n 0, 1) := by decide +kernel
theorem dL_law_2430 : decode cL_law 2430 = .ok (.iload 4, 2) := by decide +kernel
theorem dL_law_2432 : decode cL_law 2432 = .ok (.iconst 2, 1) := by decide +kernel
theorem dL_law_2433 : decode cL_law 2433 = .ok (.iadd, 1) := by decide +kernel
theorem dL_law_2434 : decode cL_law 2434 = .ok (.iaload, 1) := by decide +kernel
theorem dL_law_2435 : decode cL_law 2435 = .ok (.aload_n 3, 1) := by decide +kernel
theorem dL_law_2436 : decode cL_law 2436 = .ok (.invokestatic 253, 3) := by decide +kernel
theorem dL_law_2439 : decode cL_law 2439 = .ok (.istore 5, 2) := by decide +kernel
theorem dL_law_2441 : decode cL_law 2441 = .ok (.aload_n 2, 1) := by decide +kernel
theorem dL_law_2442 : decode cL_law 2442 = .ok (.aload_n 0, 1) := by decide +kernel
theorem dL_law_2443 : decode cL_law 2443 = .ok (.iload 4, 2) := by decide +kernel
theorem dL_law_2445 : decode cL_law 2445 = .ok (.iconst 1, 1) := by decide +kernel
theorem dL_law_2446 : decode cL_law 2446 = .ok (.iadd, 1) := by decide +kernel
theorem dL_law_2447 : decode cL_law 2447 = .ok (.iaload, 1) := by decide +kernel
theorem dL_law_2448 : decode cL_law 2448 = .ok (.aload_n 0, 1) := by decide +kernel
theorem dL_law_2449 : decode cL_law 2449 = .ok (.iload 4, 2) := by decide +kernel
theorem dL_law_2451 : decode cL_law 2451 = .ok (.iconst 2, 1) := by decide +kernel
theorem dL_law_2452 : decode cL_law 2452 = .ok (.iadd, 1) := by decide +kernel
theorem dL_law_2453 : decode cL_law 2453 = .ok (.iaload, 1) := by decide +kernel
theorem dL_law_2454 : decode cL_law 2454 = .ok (.invokevirtual 255, 3) := by decide +kernel
theorem dL_law_2457 : decode cL_law 2457 = .ok (.istore 6, 2) := by decide +kernel
theorem dL_law_2459 : decode cL_law 2459 = .ok (.aload_n 2, 1) := by decide +kernel
theorem dL_law_2460 : decode cL_law 2460 = .ok (.invokevirtual 137, 3) := by decide +kernel
theorem dL_law_2463 : decode cL_law 2463 = .ok (.iload 5, 2) := by decide +kernel
theorem dL_law_2465 : decode cL_law 2465 = .ok (.if_icmp .eq 5, 3) := by decide +kernel
theorem dL_law_2468 : decode cL_law 2468 = .ok (.iconst 0, 1) := by decide +kernel
theorem dL_law_2469 : decode cL_law 2469 = .ok (.ireturn, 1) := by decide +kernel
theorem dL_law_2470 : decode cL_law 2470 = .ok (.iload 5, 2) := by decide +kernel
theorem dL_law_2472 : decode cL_law 2472 = .ok (.ifCond .ne 15, 3) := by decide +kernel
theorem dL_law_2475 : decode cL_law 2475 = .ok (.aload_n 3, 1) := by decide +kernel
theorem dL_law_2476 : decode cL_law 2476 = .ok (.iconst 0, 1) := by decide +kernel
theorem dL_law_2477 : decode cL_law 2477 = .ok (.laload, 1) := by decide +kernel
theorem dL_law_2478 : decode cL_law 2478 = .ok (.iload 6, 2) := by decide +kernel
theorem dL_law_2480 : decode cL_law 2480 = .ok (.i2l, 1) := by decide +kernel
theorem dL_law_2481 : decode cL_law 2481 = .ok (.lcmp, 1) := by decide +kernel
theorem dL_law_2482 : decode cL_law 2482 = .ok (.ifCond .eq 5, 3) := by decide +kernel
theorem dL_law_2485 : decode cL_law 2485 = .ok (.iconst 0, 1) := by decide +kernel
theorem dL_law_2486 : decode cL_law 2486 = .ok (.ireturn, 1) := by decide +kernel
theorem dL_law_2487 : decode cL_law 2487 = .ok (.goto 219, 3) := by decide +kernel
theorem dL_law_2490 : decode cL_law 2490 = .ok (.aload_n 1, 1) := by decide +kernel
theorem dL_law_2491 : decode cL_law 2491 = .ok (.aload_n 0, 1) := by decide +kernel
theorem dL_law_2492 : decode cL_law 2492 = .ok (.iload 4, 2) := by decide +kernel
theorem dL_law_2494 : decode cL_law 2494 = .ok (.iconst 1, 1) := by decide +kernel
theorem dL_law_2495 : decode cL_law 2495 = .ok (.iadd, 1) := by decide +kernel
theorem dL_law_2496 : decode cL_law 2496 = .ok (.iaload, 1) := by decide +kernel
theorem dL_law_2497 : decode cL_law 2497 = .ok (.aload_n 0, 1) := by decide +kernel
theorem dL_law_2498 : decode cL_law 2498 = .ok (.iload 4, 2) := by decide +kernel
theorem dL_law_2500 : decode cL_law 2500 = .ok (.iconst 2, 1) := by decide +kernel
theorem dL_law_2501 : decode cL_law 2501 = .ok (.iadd, 1) := by decide +kernel
theorem dL_law_2502 : decode cL_law 2502 = .ok (.iaload, 1) := by decide +kernel
theorem dL_law_2503 : decode cL_law 2503 = .ok (.aload_n 3, 1) := by decide +kernel
theorem dL_law_2504 : decode cL_law 2504 = .ok (.invokestatic 256, 3) := by decide +kernel
theorem dL_law_2507 : decode cL_law 2507 = .ok (.istore 5, 2) := by decide +kernel
theorem dL_law_2509 : decode cL_law 2509 = .ok (.aload_n 2, 1) := by decide +kernel
theorem dL_law_2510 : decode cL_law 2510 = .ok (.aload_n 0, 1) := by decide +kernel
theorem dL_law_2511 : decode cL_law 2511 = .ok (.iload 4, 2) := by decide +kernel
theorem dL_law_2513 : decode cL_law 2513 = .ok (.iconst 1, 1) := by decide +kernel
theorem dL_law_2514 : decode cL_law 2514 = .ok (.iadd, 1) := by decide +kernel
theorem dL_law_2515 : decode cL_law 2515 = .ok (.iaload, 1) := by decide +kernel
theorem dL_law_2516 : decode cL_law 2516 = .ok (.aload_n 0, 1) := by decide +kernel
theorem dL_law_2517 : decode cL_law 2517 = .ok (.iload 4, 2) := by decide +kernel
theorem dL_law_2519 : decode cL_law 2519 = .ok (.iconst 2, 1) := by decide +kernel
theorem dL_law_2520 : decode cL_law 2520 = .ok (.iadd, 1) := by decide +kernel
theorem dL_law_2521 : decode cL_law 2521 = .ok (.iaload, 1) := by decide +kernel
theorem dL_law_2522 : decode cL_law 2522 = .ok (.invokevirtual 258, 3) := by decide +kernel
theorem dL_law_2525 : decode cL_law 2525 = .ok (.istore 6, 2) := by decide +kernel
theorem dL_law_2527 : decode cL_law 2527 = .ok (.aload_n 2, 1) := by decide +kernel
theorem dL_law_2528 : decode cL_law 2528 = .ok (.invokevirtual 137, 3) := by decide +kernel
theorem dL_law_2531 : decode cL_law 2531 = .ok (.iload 5, 2) := by decide +kernel
theorem dL_law_2533 : decode cL_law 2533 = .ok (.if_icmp .eq 5, 3) := by decide +kernel
theorem dL_law_2536 : decode cL_law 2536 = .ok (.iconst 0, 1) := by decide +kernel
theorem dL_law_2537 : decode cL_law 2537 = .ok (.ireturn, 1) := by decide +kernel
theorem dL_law_2538 : decode cL_law 2538 = .ok (.iload 5, 2) := by decide +kernel
theorem dL_law_2540 : decode cL_law 2540 = .ok (.ifCond .ne 15, 3) := by decide +kernel
theorem dL_law_2543 : decode cL_law 2543 = .ok (.aload_n 3, 1) := by decide +kernel
theorem dL_law_2544 : decode cL_law 2544 = .ok (.iconst 0, 1) := by decide +kernel
theorem dL_law_2545 : decode cL_law 2545 = .ok (.laload, 1) := by decide +kernel
theorem dL_law_2546 : decode cL_law 2546 = .ok (.iload 6, 2) := by decide +kernel
theorem dL_law_2548 : decode cL_law 2548 = .ok (.i2l, 1) := by decide +kernel
theorem dL_law_2549 : decode cL_law 2549 = .ok (.lcmp, 1) := by decide +kernel
theorem dL_law_2550 : decode cL_law 2550 = .ok (.ifCond .eq 5, 3) := by decide +kernel
theorem dL_law_2553 : decode cL_law 2553 = .ok (.iconst 0, 1) := by decide +kernel
theorem dL_law_2554 : decode cL_law 2554 = .ok (.ireturn, 1) := by decide +kernel
theorem dL_law_2555 : decode cL_law 2555 = .ok (.goto 151, 3) := by decide +kernel
theorem dL_law_2558 : decode cL_law 2558 = .ok (.aload_n 1, 1) := by decide +kernel
theorem dL_law_2559 : decode cL_law 2559 = .ok (.aload_n 0, 1) := by decide +kernel
theorem dL_law_2560 : decode cL_law 2560 = .ok (.iload 4, 2) := by decide +kernel
theorem dL_law_2562 : decode cL_law 2562 = .ok (.iconst 1, 1) := by decide +kernel
theorem dL_law_2563 : decode cL_law 2563 = .ok (.iadd, 1) := by decide +kernel
theorem dL_law_2564 : decode cL_law 2564 = .ok (.iaload, 1) := by decide +kernel
theorem dL_law_2565 : decode cL_law 2565 = .ok (.aload_n 3, 1) := by decide +kernel
theorem dL_law_2566 : decode cL_law 2566 = .ok (.invokestatic 259, 3) := by decide +kernel
theorem dL_law_2569 : decode cL_law 2569 = .ok (.istore 5, 2) := by decide +kernel
theorem dL_law_2571 : decode cL_law 2571 = .ok (.aload_n 2, 1) := by decide +kernel
theorem dL_law_2572 : decode cL_law 2572 = .ok (.aload_n 0, 1) := by decide +kernel
theorem dL_law_2573 : decode cL_law 2573 = .ok (.iload 4, 2) := by decide +kernel
theorem dL_law_2575 : decode cL_law 2575 = .ok (.iconst 1, 1) := by decide +kernel
theorem dL_law_2576 : decode cL_law 2576 = .ok (.iadd, 1) := by decide +kernel
theorem dL_law_2577 : decode cL_law 2577 = .ok (.iaload, 1) := by decide +kernel
theorem dL_law_2578 : decode cL_law 2578 = .ok (.invokevirtual 261, 3) := by decide +kernel
theorem dL_law_2581 : decode cL_law 2581 = .ok (.istore 6, 2) := by decide +kernel
theorem dL_law_2583 : decode cL_law 2583 = .ok (.aload_n 2, 1) := by decide +kernel
theorem dL_law_2584 : decode cL_law 2584 = .ok (.invokevirtual 137, 3) := by decide +kernel
theorem dL_law_2587 : decode cL_law 2587 = .ok (.iload 5, 2) := by decide +kernel
theorem dL_law_2589 : decode cL_law 2589 = .ok (.if_icmp .eq 5, 3) := by decide +kernel
theorem dL_law_2592 : decode cL_law 2592 = .ok (.iconst 0, 1) := by decide +kernel
theorem dL_law_2593 : decode cL_law 2593 = .ok (.ireturn, 1) := by decide +kernel
theorem dL_law_2594 : decode cL_law 2594 = .ok (.iload 5, 2) := by decide +kernel
theorem dL_law_2596 : decode cL_law 2596 = .ok (.ifCond .ne 15, 3) := by decide +kernel
theorem dL_law_2599 : decode cL_law 2599 = .ok (.aload_n 3, 1) := by decide +kernel
theorem dL_law_2600 : decode cL_law 2600 = .ok (.iconst 0, 1) := by decide +kernel
theorem dL_law_2601 : decode cL_law 2601 = .ok (.laload, 1) := by decide +kernel
theorem dL_law_2602 : decode cL_law 2602 = .ok (.iload 6, 2) := by decide +kernel
theorem dL_law_2604 : decode cL_law 2604 = .ok (.i2l, 1) := by decide +kernel
theorem dL_law_2605 : decode cL_law 2605 = .ok (.lcmp, 1) := by decide +kernel
theorem dL_law_2606 : decode cL_law 2606 = .ok (.ifCond .eq 5, 3) := by decide +kernel
theorem dL_law_2609 : decode cL_law 2609 = .ok (.iconst 0, 1) := by decide +kernel
theorem dL_law_2610 : decode cL_law 2610 = .ok (.ireturn, 1) := by decide +kernel
theorem dL_law_2611 : decode cL_law 2611 = .ok (.goto 95, 3) := by decide +kernel
theorem dL_law_2614 : decode cL_law 2614 = .ok (.aload_n 1, 1) := by decide +kernel
theorem dL_law_2615 : decode cL_law 2615 = .ok (.aload_n 0, 1) := by decide +kernel
theorem dL_law_2616 : decode cL_law 2616 = .ok (.iload 4, 2) := by decide +kernel
theorem dL_law_2618 : decode cL_law 2618 = .ok (.iconst 1, 1) := by decide +kernel
theorem dL_law_2619 : decode cL_law 2619 = .ok (.iadd, 1) := by decide +kernel
theorem dL_law_2620 : decode cL_law 2620 = .ok (.iaload, 1) := by decide +kernel
theorem dL_law_2621 : decode cL_law 2621 = .ok (.aload_n 0, 1) := by decide +kernel
theorem dL_law_2622 : decode cL_law 2622 = .ok (.iload 4, 2) := by decide +kernel
theorem dL_law_2624 : decode cL_law 2624 = .ok (.iconst 2, 1) := by decide +kernel
theorem dL_law_2625 : decode cL_law 2625 = .ok (.iadd, 1) := by decide +kernel
theorem dL_law_2626 : decode cL_law 2626 = .ok (.iaload, 1) := by decide +kernel
theorem dL_law_2627 : decode cL_law 2627 = .ok (.aload_n 3, 1) := by decide +kernel
theorem dL_law_2628 : decode cL_law 2628 = .ok (.invokestatic 262, 3) := by decide +kernel
theorem dL_law_2631 : decode cL_law 2631 = .ok (.istore 5, 2) := by decide +kernel
theorem dL_law_2633 : decode cL_law 2633 = .ok (.aload_n 2, 1) := by decide +kernel
theorem dL_law_2634 : decode cL_law 2634 = .ok (.aload_n 0, 1) := by decide +kernel
theorem dL_law_2635 : decode cL_law 2635 = .ok (.iload 4, 2) := by decide +kernel
theorem dL_law_2637 : decode cL_law 2637 = .ok (.iconst 1, 1) := by decide +kernel
theorem dL_law_2638 : decode cL_law 2638 = .ok (.iadd, 1) := by decide +kernel
theorem dL_law_2639 : decode cL_law 2639 = .ok (.iaload, 1) := by decide +kernel
theorem dL_law_2640 : decode cL_law 2640 = .ok (.aload_n 0, 1) := by decide +kernel
theorem dL_law_2641 : decode cL_law 2641 = .ok (.iload 4, 2) := by decide +kernel
theorem dL_law_2643 : decode cL_law 2643 = .ok (.iconst 2, 1) := by decide +kernel
theorem dL_law_2644 : decode cL_law 2644 = .ok (.iadd, 1) := by decide +kernel
theorem dL_law_2645 : decode cL_law 2645 = .ok (.iaload, 1) := by decide +kernel
theorem dL_law_2646 : decode cL_law 2646 = .ok (.invokevirtual 264, 3) := by decide +kernel
theorem dL_law_2649 : decode cL_law 2649 = .ok (.istore 6, 2) := by decide +kernel
theorem dL_law_2651 : decode cL_law 2651 = .ok (.aload_n 2, 1) := by decide +kernel
theorem dL_law_2652 : decode cL_law 2652 = .ok (.invokevirtual 137, 3) := by decide +kernel
theorem dL_law_2655 : decode cL_law 2655 = .ok (.iload 5, 2) := by decide +kernel
theorem dL_law_2657 : decode cL_law 2657 = .ok (.if_icmp .eq 5, 3) := by decide +kernel
theorem dL_law_2660 : decode cL_law 2660 = .ok (.iconst 0, 1) := by decide +kernel
theorem dL_law_2661 : decode cL_law 2661 = .ok (.ireturn, 1) := by decide +kernel
theorem dL_law_2662 : decode cL_law 2662 = .ok (.iload 5, 2) := by decide +kernel
theorem dL_law_2664 : decode cL_law 2664 = .ok (.ifCond .ne 15, 3) := by decide +kernel
theorem dL_law_2667 : decode cL_law 2667 = .ok (.aload_n 3, 1) := by decide +kernel
theorem dL_law_2668 : decode cL_law 2668 = .ok (.iconst 0, 1) := by decide +kernel
theorem dL_law_2669 : decode cL_law 2669 = .ok (.laload, 1) := by decide +kernel
theorem dL_law_2670 : decode cL_law 2670 = .ok (.iload 6, 2) := by decide +kernel
theorem dL_law_2672 : decode cL_law 2672 = .ok (.i2l, 1) := by decide +kernel
theorem dL_law_2673 : decode cL_law 2673 = .ok (.lcmp, 1) := by decide +kernel
theorem dL_law_2674 : decode cL_law 2674 = .ok (.ifCond .eq 5, 3) := by decide +kernel
theorem dL_law_2677 : decode cL_law 2677 = .ok (.iconst 0, 1) := by decide +kernel
theorem dL_law_2678 : decode cL_law 2678 = .ok (.ireturn, 1) := by decide +kernel
theorem dL_law_2679 : decode cL_law 2679 = .ok (.goto 27, 3) := by decide +kernel
theorem dL_law_2682 : decode cL_law 2682 = .ok (.aload_n 1, 1) := by decide +kernel
theorem dL_law_2683 : decode cL_law 2683 = .ok (.invokevirtual 265, 3) := by decide +kernel
theorem dL_law_2686 : decode cL_law 2686 = .ok (.aload_n 2, 1) := by decide +kernel
theorem dL_law_2687 : decode cL_law 2687 = .ok (.invokevirtual 268, 3) := by decide +kernel
theorem dL_law_2690 : decode cL_law 2690 = .ok (.goto 16, 3) := by decide +kernel
theorem dL_law_2693 : decode cL_law 2693 = .ok (.aload_n 1, 1) := by decide +kernel
theorem dL_law_2694 : decode cL_law 2694 = .ok (.invokevirtual 269, 3) := by decide +kernel
theorem dL_law_2697 : decode cL_law 2697 = .ok (.aload_n 2, 1) := by decide +kernel
theorem dL_law_2698 : decode cL_law 2698 = .ok (.invokevirtual 273, 3) := by decide +kernel
theorem dL_law_2701 : decode cL_law 2701 = .ok (.if_icmp .eq 5, 3) := by decide +kernel
theorem dL_law_2704 : decode cL_law 2704 = .ok (.iconst 0, 1) := by decide +kernel
theorem dL_law_2705 : decode cL_law 2705 = .ok (.ireturn, 1) := by decide +kernel
theorem dL_law_2706 : decode cL_law 2706 = .ok (.iinc 4 6, 3) := by decide +kernel
theorem dL_law_2709 : decode cL_law 2709 = .ok (.goto (-2686), 3) := by decide +kernel
theorem dL_law_2712 : decode cL_law 2712 = .ok (.iconst 1, 1) := by decide +kernel
theorem dL_law_2713 : decode cL_law 2713 = .ok (.ireturn, 1) := by decide +kernel
