theorem eL_law_1326 : Jmp cL_law 1326 (.if_icmp .eq 5) 5 1329 1331 := ⟨by decide +kernel, rfl, rfl⟩
theorem eL_law_1329 : Dec cL_law 1329 (.iconst 0) 1 1330 := ⟨by decide +kernel, rfl⟩
theorem eL_law_1330 : Dec cL_law 1330 .ireturn 1 1331 := ⟨by decide +kernel, rfl⟩
theorem eL_law_1331 : Dec cL_law 1331 (.iinc 3 6) 3 1334 := ⟨by decide +kernel, rfl⟩
theorem eL_law_1334 : Jmp cL_law 1334 (.goto (-1316)) (-1316) 1337 18 := ⟨by decide +kernel, rfl, rfl⟩
theorem eL_law_1337 : Dec cL_law 1337 (.iconst 1) 1 1338 := ⟨by decide +kernel, rfl⟩
theorem eL_law_1338 : Dec cL_law 1338 .ireturn 1 1339 := ⟨by decide +kernel, rfl⟩
