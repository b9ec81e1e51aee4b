/-! every instruction of the code tables is what the bytes decode to, with the words that it needs -/
set_option maxRecDepth 1000000 in
theorem me_1 : meB 1 = true := by decide +kernel
set_option maxRecDepth 1000000 in
theorem me_2 : meB 2 = true := by decide +kernel
set_option maxRecDepth 1000000 in
theorem me_3 : meB 3 = true := by decide +kernel
set_option maxRecDepth 1000000 in
theorem me_4 : meB 4 = true := by decide +kernel
set_option maxRecDepth 1000000 in
theorem me_5 : meB 5 = true := by decide +kernel
set_option maxRecDepth 1000000 in
theorem me_6 : meB 6 = true := by decide +kernel
set_option maxRecDepth 1000000 in
theorem me_7 : meB 7 = true := by decide +kernel
set_option maxRecDepth 1000000 in
theorem me_8 : meB 8 = true := by decide +kernel
set_option maxRecDepth 1000000 in
theorem me_9 : meB 9 = true := by decide +kernel
set_option maxRecDepth 1000000 in
theorem me_10 : meB 10 = true := by decide +kernel
set_option maxRecDepth 1000000 in
theorem me_11 : meB 11 = true := by decide +kernel
set_option maxRecDepth 1000000 in
theorem me_101 : meB 101 = true := by decide +kernel
set_option maxRecDepth 1000000 in
theorem me_201 : meB 201 = true := by decide +kernel
set_option maxRecDepth 1000000 in
theorem me_202 : meB 202 = true := by decide +kernel
set_option maxRecDepth 1000000 in
theorem me_203 : meB 203 = true := by decide +kernel
set_option maxRecDepth 1000000 in
theorem me_204 : meB 204 = true := by decide +kernel
set_option maxRecDepth 1000000 in
theorem me_205 : meB 205 = true := by decide +kernel
set_option maxRecDepth 1000000 in
theorem me_206 : meB 206 = true := by decide +kernel
set_option maxRecDepth 1000000 in
theorem me_207 : meB 207 = true := by decide +kernel
set_option maxRecDepth 1000000 in
theorem me_208 : meB 208 = true := by decide +kernel
set_option maxRecDepth 1000000 in
theorem me_209 : meB 209 = true := by decide +kernel
set_option maxRecDepth 1000000 in
theorem me_210 : meB 210 = true := by decide +kernel
set_option maxRecDepth 1000000 in
theorem me_211 : meB 211 = true := by decide +kernel
set_option maxRecDepth 1000000 in
theorem me_212 : meB 212 = true := by decide +kernel
set_option maxRecDepth 1000000 in
theorem me_213 : meB 213 = true := by decide +kernel
set_option maxRecDepth 1000000 in
theorem me_214 : meB 214 = true := by decide +kernel
set_option maxRecDepth 1000000 in
theorem me_215 : meB 215 = true := by decide +kernel
set_option maxRecDepth 1000000 in
theorem me_216 : meB 216 = true := by decide +kernel
set_option maxRecDepth 1000000 in
theorem me_217 : meB 217 = true := by decide +kernel
set_option maxRecDepth 1000000 in
theorem me_301 : meB 301 = true := by decide +kernel
set_option maxRecDepth 1000000 in
theorem me_302 : meB 302 = true := by decide +kernel
set_option maxRecDepth 1000000 in
theorem me_303 : meB 303 = true := by decide +kernel
set_option maxRecDepth 1000000 in
theorem me_304 : meB 304 = true := by decide +kernel
set_option maxRecDepth 1000000 in
theorem me_305 : meB 305 = true := by decide +kernel
set_option maxRecDepth 1000000 in
theorem me_306 : meB 306 = true := by decide +kernel
set_option maxRecDepth 1000000 in
theorem me_308 : meB 308 = true := by decide +kernel
set_option maxRecDepth 1000000 in
theorem me_309 : meB 309 = true := by decide +kernel
set_option maxRecDepth 1000000 in
theorem me_310 : meB 310 = true := by decide +kernel
set_option maxRecDepth 1000000 in
theorem me_311 : meB 311 = true := by decide +kernel
set_option maxRecDepth 1000000 in
theorem me_312 : meB 312 = true := by decide +kernel
set_option maxRecDepth 1000000 in
theorem me_313 : meB 313 = true := by decide +kernel
set_option maxRecDepth 1000000 in
theorem me_314 : meB 314 = true := by decide +kernel
set_option maxRecDepth 1000000 in
theorem me_401 : meB 401 = true := by decide +kernel
set_option maxRecDepth 1000000 in
theorem me_402 : meB 402 = true := by decide +kernel
set_option maxRecDepth 1000000 in
theorem me_403 : meB 403 = true := by decide +kernel
set_option maxRecDepth 1000000 in
theorem me_404 : meB 404 = true := by decide +kernel
set_option maxRecDepth 1000000 in
theorem me_405 : meB 405 = true := by decide +kernel
set_option maxRecDepth 1000000 in
theorem me_406 : meB 406 = true := by decide +kernel
set_option maxRecDepth 1000000 in
theorem me_407 : meB 407 = true := by decide +kernel
set_option maxRecDepth 1000000 in
theorem me_408 : meB 408 = true := by decide +kernel
set_option maxRecDepth 1000000 in
theorem me_409 : meB 409 = true := by decide +kernel
set_option maxRecDepth 1000000 in
theorem me_410 : meB 410 = true := by decide +kernel
set_option maxRecDepth 1000000 in
theorem me_411 : meB 411 = true := by decide +kernel
set_option maxRecDepth 1000000 in
theorem me_412 : meB 412 = true := by decide +kernel
set_option maxRecDepth 1000000 in
theorem me_413 : meB 413 = true := by decide +kernel
set_option maxRecDepth 1000000 in
theorem me_414 : meB 414 = true := by decide +kernel
set_option maxRecDepth 1000000 in
theorem me_415 : meB 415 = true := by decide +kernel
set_option maxRecDepth 1000000 in
theorem me_416 : meB 416 = true := by decide +kernel
set_option maxRecDepth 1000000 in
theorem me_501 : meB 501 = true := by decide +kernel
set_option maxRecDepth 1000000 in
theorem me_502 : meB 502 = true := by decide +kernel
set_option maxRecDepth 1000000 in
theorem me_503 : meB 503 = true := by decide +kernel
set_option maxRecDepth 1000000 in
theorem me_504 : meB 504 = true := by decide +kernel
set_option maxRecDepth 1000000 in
theorem me_505 : meB 505 = true := by decide +kernel
set_option maxRecDepth 1000000 in
theorem me_506 : meB 506 = true := by decide +kernel
set_option maxRecDepth 1000000 in
theorem me_507 : meB 507 = true := by decide +kernel
set_option maxRecDepth 1000000 in
theorem me_508 : meB 508 = true := by decide +kernel
set_option maxRecDepth 1000000 in
theorem me_509 : meB 509 = true := by decide +kernel
set_option maxRecDepth 1000000 in
theorem me_510 : meB 510 = true := by decide +kernel
set_option maxRecDepth 1000000 in
theorem me_511 : meB 511 = true := by decide +kernel
set_option maxRecDepth 1000000 in
theorem me_512 : meB 512 = true := by decide +kernel
set_option maxRecDepth 1000000 in
theorem me_514 : meB 514 = true := by decide +kernel
set_option maxRecDepth 1000000 in
theorem me_515 : meB 515 = true := by decide +kernel
set_option maxRecDepth 1000000 in
theorem me_516 : meB 516 = true := by decide +kernel
set_option maxRecDepth 1000000 in
theorem me_517 : meB 517 = true := by decide +kernel
set_option maxRecDepth 1000000 in
theorem me_518 : meB 518 = true := by decide +kernel
set_option maxRecDepth 1000000 in
theorem me_519 : meB 519 = true := by decide +kernel
set_option maxRecDepth 1000000 in
theorem me_520 : meB 520 = true := by decide +kernel
set_option maxRecDepth 1000000 in
theorem me_521 : meB 521 = true := by decide +kernel
set_option maxRecDepth 1000000 in
theorem me_522 : meB 522 = true := by decide +kernel
set_option maxRecDepth 1000000 in
theorem me_523 : meB 523 = true := by decide +kernel
set_option maxRecDepth 1000000 in
theorem me_524 : meB 524 = true := by decide +kernel
set_option maxRecDepth 1000000 in
theorem me_525 : meB 525 = true := by decide +kernel
set_option maxRecDepth 1000000 in
theorem me_526 : meB 526 = true := by decide +kernel
set_option maxRecDepth 1000000 in
theorem me_527 : meB 527 = true := by decide +kernel
set_option maxRecDepth 1000000 in
theorem me_701 : meB 701 = true := by decide +kernel
set_option maxRecDepth 1000000 in
theorem me_702 : meB 702 = true := by decide +kernel
set_option maxRecDepth 1000000 in
theorem me_703 : meB 703 = true := by decide +kernel
set_option maxRecDepth 1000000 in
theorem me_704 : meB 704 = true := by decide +kernel
set_option maxRecDepth 1000000 in
theorem me_901 : meB 901 = true := by decide +kernel
set_option maxRecDepth 1000000 in
theorem me_902 : meB 902 = true := by decide +kernel
set_option maxRecDepth 1000000 in
theorem me_905 : meB 905 = true := by decide +kernel
set_option maxRecDepth 1000000 in
theorem me_910 : meB 910 = true := by decide +kernel
set_option maxRecDepth 1000000 in
theorem me_911 : meB 911 = true := by decide +kernel
set_option maxRecDepth 1000000 in
theorem me_912 : meB 912 = true := by decide +kernel
set_option maxRecDepth 1000000 in
theorem me_913 : meB 913 = true := by decide +kernel
set_option maxRecDepth 1000000 in
theorem me_914 : meB 914 = true := by decide +kernel
set_option maxRecDepth 1000000 in
theorem me_915 : meB 915 = true := by decide +kernel
set_option maxRecDepth 1000000 in
theorem me_916 : meB 916 = true := by decide +kernel
set_option maxRecDepth 1000000 in
theorem me_917 : meB 917 = true := by decide +kernel
set_option maxRecDepth 1000000 in
theorem me_918 : meB 918 = true := by decide +kernel
set_option maxRecDepth 1000000 in
theorem me_919 : meB 919 = true := by decide +kernel
set_option maxRecDepth 1000000 in
theorem me_920 : meB 920 = true := by decide +kernel
set_option maxRecDepth 1000000 in
theorem me_921 : meB 921 = true := by decide +kernel
set_option maxRecDepth 1000000 in
theorem me_922 : meB 922 = true := by decide +kernel
set_option maxRecDepth 1000000 in
theorem me_923 : meB 923 = true := by decide +kernel
set_option maxRecDepth 1000000 in
theorem me_924 : meB 924 = true := by decide +kernel
set_option maxRecDepth 1000000 in
theorem me_927 : meB 927 = true := by decide +kernel
set_option maxRecDepth 1000000 in
theorem me_929 : meB 929 = true := by decide +kernel
set_option maxRecDepth 1000000 in
theorem me_933 : meB 933 = true := by decide +kernel
set_option maxRecDepth 1000000 in
theorem me_934 : meB 934 = true := by decide +kernel
set_option maxRecDepth 1000000 in
theorem me_935 : meB 935 = true := by decide +kernel
set_option maxRecDepth 1000000 in
theorem me_937 : meB 937 = true := by decide +kernel
set_option maxRecDepth 1000000 in
theorem me_938 : meB 938 = true := by decide +kernel
set_option maxRecDepth 1000000 in
theorem me_939 : meB 939 = true := by decide +kernel
set_option maxRecDepth 1000000 in
theorem me_940 : meB 940 = true := by decide +kernel
set_option maxRecDepth 1000000 in
theorem me_941 : meB 941 = true := by decide +kernel
set_option maxRecDepth 1000000 in
theorem me_942 : meB 942 = true := by decide +kernel
set_option maxRecDepth 1000000 in
theorem me_943 : meB 943 = true := by decide +kernel
set_option maxRecDepth 1000000 in
theorem me_944 : meB 944 = true := by decide +kernel
set_option maxRecDepth 1000000 in
theorem me_945 : meB 945 = true := by decide +kernel
set_option maxRecDepth 1000000 in
theorem me_1100 : meB 1100 = true := by decide +kernel
set_option maxRecDepth 1000000 in
theorem me_1101 : meB 1101 = true := by decide +kernel
set_option maxRecDepth 1000000 in
theorem me_1104 : meB 1104 = true := by decide +kernel
set_option maxRecDepth 1000000 in
theorem me_1223 : meB 1223 = true := by decide +kernel
set_option maxRecDepth 1000000 in
theorem me_1224 : meB 1224 = true := by decide +kernel
set_option maxRecDepth 1000000 in
theorem me_1225 : meB 1225 = true := by decide +kernel
set_option maxRecDepth 1000000 in
theorem meL_b : ∀ q ∈ miL, meB q = true := List.forall_mem_cons.mpr ⟨me_1, List.forall_mem_cons.mpr ⟨me_2, List.forall_mem_cons.mpr ⟨me_3, List.forall_mem_cons.mpr ⟨me_4, List.forall_mem_cons.mpr ⟨me_5, List.forall_mem_cons.mpr ⟨me_6, List.forall_mem_cons.mpr ⟨me_7, List.forall_mem_cons.mpr ⟨me_8, List.forall_mem_cons.mpr ⟨me_9, List.forall_mem_cons.mpr ⟨me_10, List.forall_mem_cons.mpr ⟨me_11, List.forall_mem_cons.mpr ⟨me_101, List.forall_mem_cons.mpr ⟨me_201, List.forall_mem_cons.mpr ⟨me_202, List.forall_mem_cons.mpr ⟨me_203, List.forall_mem_cons.mpr ⟨me_204, List.forall_mem_cons.mpr ⟨me_205, List.forall_mem_cons.mpr ⟨me_206, List.forall_mem_cons.mpr ⟨me_207, List.forall_mem_cons.mpr ⟨me_208, List.forall_mem_cons.mpr ⟨me_209, List.forall_mem_cons.mpr ⟨me_210, List.forall_mem_cons.mpr ⟨me_211, List.forall_mem_cons.mpr ⟨me_212, List.forall_mem_cons.mpr ⟨me_213, List.forall_mem_cons.mpr ⟨me_214, List.forall_mem_cons.mpr ⟨me_215, List.forall_mem_cons.mpr ⟨me_216, List.forall_mem_cons.mpr ⟨me_217, List.forall_mem_cons.mpr ⟨me_301, List.forall_mem_cons.mpr ⟨me_302, List.forall_mem_cons.mpr ⟨me_303, List.forall_mem_cons.mpr ⟨me_304, List.forall_mem_cons.mpr ⟨me_305, List.forall_mem_cons.mpr ⟨me_306, List.forall_mem_cons.mpr ⟨me_308, List.forall_mem_cons.mpr ⟨me_309, List.forall_mem_cons.mpr ⟨me_310, List.forall_mem_cons.mpr ⟨me_311, List.forall_mem_cons.mpr ⟨me_312, List.forall_mem_cons.mpr ⟨me_313, List.forall_mem_cons.mpr ⟨me_314, List.forall_mem_cons.mpr ⟨me_401, List.forall_mem_cons.mpr ⟨me_402, List.forall_mem_cons.mpr ⟨me_403, List.forall_mem_cons.mpr ⟨me_404, List.forall_mem_cons.mpr ⟨me_405, List.forall_mem_cons.mpr ⟨me_406, List.forall_mem_cons.mpr ⟨me_407, List.forall_mem_cons.mpr ⟨me_408, List.forall_mem_cons.mpr ⟨me_409, List.forall_mem_cons.mpr ⟨me_410, List.forall_mem_cons.mpr ⟨me_411, List.forall_mem_cons.mpr ⟨me_412, List.forall_mem_cons.mpr ⟨me_413, List.forall_mem_cons.mpr ⟨me_414, List.forall_mem_cons.mpr ⟨me_415, List.forall_mem_cons.mpr ⟨me_416, List.forall_mem_cons.mpr ⟨me_501, List.forall_mem_cons.mpr ⟨me_502, List.forall_mem_cons.mpr ⟨me_503, List.forall_mem_cons.mpr ⟨me_504, List.forall_mem_cons.mpr ⟨me_505, List.forall_mem_cons.mpr ⟨me_506, List.forall_mem_cons.mpr ⟨me_507, List.forall_mem_cons.mpr ⟨me_508, List.forall_mem_cons.mpr ⟨me_509, List.forall_mem_cons.mpr ⟨me_510, List.forall_mem_cons.mpr ⟨me_511, List.forall_mem_cons.mpr ⟨me_512, List.forall_mem_cons.mpr ⟨me_514, List.forall_mem_cons.mpr ⟨me_515, List.forall_mem_cons.mpr ⟨me_516, List.forall_mem_cons.mpr ⟨me_517, List.forall_mem_cons.mpr ⟨me_518, List.forall_mem_cons.mpr ⟨me_519, List.forall_mem_cons.mpr ⟨me_520, List.forall_mem_cons.mpr ⟨me_521, List.forall_mem_cons.mpr ⟨me_522, List.forall_mem_cons.mpr ⟨me_523, List.forall_mem_cons.mpr ⟨me_524, List.forall_mem_cons.mpr ⟨me_525, List.forall_mem_cons.mpr ⟨me_526, List.forall_mem_cons.mpr ⟨me_527, List.forall_mem_cons.mpr ⟨me_701, List.forall_mem_cons.mpr ⟨me_702, List.forall_mem_cons.mpr ⟨me_703, List.forall_mem_cons.mpr ⟨me_704, List.forall_mem_cons.mpr ⟨me_901, List.forall_mem_cons.mpr ⟨me_902, List.forall_mem_cons.mpr ⟨me_905, List.forall_mem_cons.mpr ⟨me_910, List.forall_mem_cons.mpr ⟨me_911, List.forall_mem_cons.mpr ⟨me_912, List.forall_mem_cons.mpr ⟨me_913, List.forall_mem_cons.mpr ⟨me_914, List.forall_mem_cons.mpr ⟨me_915, List.forall_mem_cons.mpr ⟨me_916, List.forall_mem_cons.mpr ⟨me_917, List.forall_mem_cons.mpr ⟨me_918, List.forall_mem_cons.mpr ⟨me_919, List.forall_mem_cons.mpr ⟨me_920, List.forall_mem_cons.mpr ⟨me_921, List.forall_mem_cons.mpr ⟨me_922, List.forall_mem_cons.mpr ⟨me_923, List.forall_mem_cons.mpr ⟨me_924, List.forall_mem_cons.mpr ⟨me_927, List.forall_mem_cons.mpr ⟨me_929, List.forall_mem_cons.mpr ⟨me_933, List.forall_mem_cons.mpr ⟨me_934, List.forall_mem_cons.mpr ⟨me_935, List.forall_mem_cons.mpr ⟨me_937, List.forall_mem_cons.mpr ⟨me_938, List.forall_mem_cons.mpr ⟨me_939, List.forall_mem_cons.mpr ⟨me_940, List.forall_mem_cons.mpr ⟨me_941, List.forall_mem_cons.mpr ⟨me_942, List.forall_mem_cons.mpr ⟨me_943, List.forall_mem_cons.mpr ⟨me_944, List.forall_mem_cons.mpr ⟨me_945, List.forall_mem_cons.mpr ⟨me_1100, List.forall_mem_cons.mpr ⟨me_1101, List.forall_mem_cons.mpr ⟨me_1104, List.forall_mem_cons.mpr ⟨me_1223, List.forall_mem_cons.mpr ⟨me_1224, List.forall_mem_cons.mpr ⟨me_1225, fun _ h => absurd h List.not_mem_nil⟩⟩⟩⟩⟩⟩⟩⟩⟩⟩⟩⟩⟩⟩⟩⟩⟩⟩⟩⟩⟩⟩⟩⟩⟩⟩⟩⟩⟩⟩⟩⟩⟩⟩⟩⟩⟩⟩⟩⟩⟩⟩⟩⟩⟩⟩⟩⟩⟩⟩⟩⟩⟩⟩⟩⟩⟩⟩⟩⟩⟩⟩⟩⟩⟩⟩⟩⟩⟩⟩⟩⟩⟩⟩⟩⟩⟩⟩⟩⟩⟩⟩⟩⟩⟩⟩⟩⟩⟩⟩⟩⟩⟩⟩⟩⟩⟩⟩⟩⟩⟩⟩⟩⟩⟩⟩⟩⟩⟩⟩⟩⟩⟩⟩⟩⟩⟩⟩⟩⟩⟩⟩⟩⟩⟩⟩
