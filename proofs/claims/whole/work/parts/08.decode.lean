/-! every instruction of the code tables is what the bytes decode to, with the words that it needs -/
set_option maxRecDepth 1000000 in
theorem me_1 : meB 1 = true := by decide +kernel
set_option maxRecDepth 1000000 in
theorem me_2 : meB 2 = true := by decide +kernel
set_option maxRecDepth 1000000 in
theorem me_3 : meB 3 = true := by decide +kernel
set_option maxRecDepth 1000000 in
theorem me_4 : meB 4 = true := by decide +kernel
set_option maxRecDepth 1000000 in
theorem me_5 : meB 5 = true := by decide +kernel
set_option maxRecDepth 1000000 in
theorem me_6 : meB 6 = true := by decide +kernel
set_option maxRecDepth 1000000 in
theorem me_7 : meB 7 = true := by decide +kernel
set_option maxRecDepth 1000000 in
theorem me_8 : meB 8 = true := by decide +kernel
set_option maxRecDepth 1000000 in
theorem me_9 : meB 9 = true := by decide +kernel
set_option maxRecDepth 1000000 in
theorem me_10 : meB 10 = true := by decide +kernel
set_option maxRecDepth 1000000 in
theorem me_11 : meB 11 = true := by decide +kernel
set_option maxRecDepth 1000000 in
theorem me_101 : meB 101 = true := by decide +kernel
set_option maxRecDepth 1000000 in
theorem me_102 : meB 102 = true := by decide +kernel
set_option maxRecDepth 1000000 in
theorem me_103 : meB 103 = true := by decide +kernel
set_option maxRecDepth 1000000 in
theorem me_104 : meB 104 = true := by decide +kernel
set_option maxRecDepth 1000000 in
theorem me_201 : meB 201 = true := by decide +kernel
set_option maxRecDepth 1000000 in
theorem me_202 : meB 202 = true := by decide +kernel
set_option maxRecDepth 1000000 in
theorem me_203 : meB 203 = true := by decide +kernel
set_option maxRecDepth 1000000 in
theorem me_204 : meB 204 = true := by decide +kernel
set_option maxRecDepth 1000000 in
theorem me_205 : meB 205 = true := by decide +kernel
set_option maxRecDepth 1000000 in
theorem me_206 : meB 206 = true := by decide +kernel
set_option maxRecDepth 1000000 in
theorem me_207 : meB 207 = true := by decide +kernel
set_option maxRecDepth 1000000 in
theorem me_208 : meB 208 = true := by decide +kernel
set_option maxRecDepth 1000000 in
theorem me_209 : meB 209 = true := by decide +kernel
set_option maxRecDepth 1000000 in
theorem me_210 : meB 210 = true := by decide +kernel
set_option maxRecDepth 1000000 in
theorem me_211 : meB 211 = true := by decide +kernel
set_option maxRecDepth 1000000 in
theorem me_212 : meB 212 = true := by decide +kernel
set_option maxRecDepth 1000000 in
theorem me_213 : meB 213 = true := by decide +kernel
set_option maxRecDepth 1000000 in
theorem me_214 : meB 214 = true := by decide +kernel
set_option maxRecDepth 1000000 in
theorem me_215 : meB 215 = true := by decide +kernel
set_option maxRecDepth 1000000 in
theorem me_216 : meB 216 = true := by decide +kernel
set_option maxRecDepth 1000000 in
theorem me_217 : meB 217 = true := by decide +kernel
set_option maxRecDepth 1000000 in
theorem me_301 : meB 301 = true := by decide +kernel
set_option maxRecDepth 1000000 in
theorem me_302 : meB 302 = true := by decide +kernel
set_option maxRecDepth 1000000 in
theorem me_303 : meB 303 = true := by decide +kernel
set_option maxRecDepth 1000000 in
theorem me_304 : meB 304 = true := by decide +kernel
set_option maxRecDepth 1000000 in
theorem me_305 : meB 305 = true := by decide +kernel
set_option maxRecDepth 1000000 in
theorem me_306 : meB 306 = true := by decide +kernel
set_option maxRecDepth 1000000 in
theorem me_308 : meB 308 = true := by decide +kernel
set_option maxRecDepth 1000000 in
theorem me_309 : meB 309 = true := by decide +kernel
set_option maxRecDepth 1000000 in
theorem me_310 : meB 310 = true := by decide +kernel
set_option maxRecDepth 1000000 in
theorem me_311 : meB 311 = true := by decide +kernel
set_option maxRecDepth 1000000 in
theorem me_312 : meB 312 = true := by decide +kernel
set_option maxRecDepth 1000000 in
theorem me_313 : meB 313 = true := by decide +kernel
set_option maxRecDepth 1000000 in
theorem me_314 : meB 314 = true := by decide +kernel
set_option maxRecDepth 1000000 in
theorem me_315 : meB 315 = true := by decide +kernel
set_option maxRecDepth 1000000 in
theorem me_316 : meB 316 = true := by decide +kernel
set_option maxRecDepth 1000000 in
theorem me_401 : meB 401 = true := by decide +kernel
set_option maxRecDepth 1000000 in
theorem me_402 : meB 402 = true := by decide +kernel
set_option maxRecDepth 1000000 in
theorem me_403 : meB 403 = true := by decide +kernel
set_option maxRecDepth 1000000 in
theorem me_404 : meB 404 = true := by decide +kernel
set_option maxRecDepth 1000000 in
theorem me_405 : meB 405 = true := by decide +kernel
set_option maxRecDepth 1000000 in
theorem me_406 : meB 406 = true := by decide +kernel
set_option maxRecDepth 1000000 in
theorem me_407 : meB 407 = true := by decide +kernel
set_option maxRecDepth 1000000 in
theorem me_408 : meB 408 = true := by decide +kernel
set_option maxRecDepth 1000000 in
theorem me_409 : meB 409 = true := by decide +kernel
set_option maxRecDepth 1000000 in
theorem me_410 : meB 410 = true := by decide +kernel
set_option maxRecDepth 1000000 in
theorem me_411 : meB 411 = true := by decide +kernel
set_option maxRecDepth 1000000 in
theorem me_412 : meB 412 = true := by decide +kernel
set_option maxRecDepth 1000000 in
theorem me_413 : meB 413 = true := by decide +kernel
set_option maxRecDepth 1000000 in
theorem me_414 : meB 414 = true := by decide +kernel
set_option maxRecDepth 1000000 in
theorem me_415 : meB 415 = true := by decide +kernel
set_option maxRecDepth 1000000 in
theorem me_416 : meB 416 = true := by decide +kernel
set_option maxRecDepth 1000000 in
theorem me_501 : meB 501 = true := by decide +kernel
set_option maxRecDepth 1000000 in
theorem me_502 : meB 502 = true := by decide +kernel
set_option maxRecDepth 1000000 in
theorem me_503 : meB 503 = true := by decide +kernel
set_option maxRecDepth 1000000 in
theorem me_504 : meB 504 = true := by decide +kernel
set_option maxRecDepth 1000000 in
theorem me_505 : meB 505 = true := by decide +kernel
set_option maxRecDepth 1000000 in
theorem me_506 : meB 506 = true := by decide +kernel
set_option maxRecDepth 1000000 in
theorem me_507 : meB 507 = true := by decide +kernel
set_option maxRecDepth 1000000 in
theorem me_508 : meB 508 = true := by decide +kernel
set_option maxRecDepth 1000000 in
theorem me_509 : meB 509 = true := by decide +kernel
set_option maxRecDepth 1000000 in
theorem me_510 : meB 510 = true := by decide +kernel
set_option maxRecDepth 1000000 in
theorem me_511 : meB 511 = true := by decide +kernel
set_option maxRecDepth 1000000 in
theorem me_512 : meB 512 = true := by decide +kernel
set_option maxRecDepth 1000000 in
theorem me_514 : meB 514 = true := by decide +kernel
set_option maxRecDepth 1000000 in
theorem me_515 : meB 515 = true := by decide +kernel
set_option maxRecDepth 1000000 in
theorem me_516 : meB 516 = true := by decide +kernel
set_option maxRecDepth 1000000 in
theorem me_517 : meB 517 = true := by decide +kernel
set_option maxRecDepth 1000000 in
theorem me_518 : meB 518 = true := by decide +kernel
set_option maxRecDepth 1000000 in
theorem me_519 : meB 519 = true := by decide +kernel
set_option maxRecDepth 1000000 in
theorem me_520 : meB 520 = true := by decide +kernel
set_option maxRecDepth 1000000 in
theorem me_521 : meB 521 = true := by decide +kernel
set_option maxRecDepth 1000000 in
theorem me_522 : meB 522 = true := by decide +kernel
set_option maxRecDepth 1000000 in
theorem me_523 : meB 523 = true := by decide +kernel
set_option maxRecDepth 1000000 in
theorem me_524 : meB 524 = true := by decide +kernel
set_option maxRecDepth 1000000 in
theorem me_525 : meB 525 = true := by decide +kernel
set_option maxRecDepth 1000000 in
theorem me_526 : meB 526 = true := by decide +kernel
set_option maxRecDepth 1000000 in
theorem me_527 : meB 527 = true := by decide +kernel
set_option maxRecDepth 1000000 in
theorem me_528 : meB 528 = true := by decide +kernel
set_option maxRecDepth 1000000 in
theorem me_529 : meB 529 = true := by decide +kernel
set_option maxRecDepth 1000000 in
theorem me_530 : meB 530 = true := by decide +kernel
set_option maxRecDepth 1000000 in
theorem me_531 : meB 531 = true := by decide +kernel
set_option maxRecDepth 1000000 in
theorem me_601 : meB 601 = true := by decide +kernel
set_option maxRecDepth 1000000 in
theorem me_602 : meB 602 = true := by decide +kernel
set_option maxRecDepth 1000000 in
theorem me_603 : meB 603 = true := by decide +kernel
set_option maxRecDepth 1000000 in
theorem me_604 : meB 604 = true := by decide +kernel
set_option maxRecDepth 1000000 in
theorem me_605 : meB 605 = true := by decide +kernel
set_option maxRecDepth 1000000 in
theorem me_606 : meB 606 = true := by decide +kernel
set_option maxRecDepth 1000000 in
theorem me_607 : meB 607 = true := by decide +kernel
set_option maxRecDepth 1000000 in
theorem me_608 : meB 608 = true := by decide +kernel
set_option maxRecDepth 1000000 in
theorem me_609 : meB 609 = true := by decide +kernel
set_option maxRecDepth 1000000 in
theorem me_610 : meB 610 = true := by decide +kernel
set_option maxRecDepth 1000000 in
theorem me_611 : meB 611 = true := by decide +kernel
set_option maxRecDepth 1000000 in
theorem me_612 : meB 612 = true := by decide +kernel
set_option maxRecDepth 1000000 in
theorem me_701 : meB 701 = true := by decide +kernel
set_option maxRecDepth 1000000 in
theorem me_702 : meB 702 = true := by decide +kernel
set_option maxRecDepth 1000000 in
theorem me_703 : meB 703 = true := by decide +kernel
set_option maxRecDepth 1000000 in
theorem me_704 : meB 704 = true := by decide +kernel
set_option maxRecDepth 1000000 in
theorem me_705 : meB 705 = true := by decide +kernel
set_option maxRecDepth 1000000 in
theorem me_801 : meB 801 = true := by decide +kernel
set_option maxRecDepth 1000000 in
theorem me_901 : meB 901 = true := by decide +kernel
set_option maxRecDepth 1000000 in
theorem me_902 : meB 902 = true := by decide +kernel
set_option maxRecDepth 1000000 in
theorem me_903 : meB 903 = true := by decide +kernel
set_option maxRecDepth 1000000 in
theorem me_904 : meB 904 = true := by decide +kernel
set_option maxRecDepth 1000000 in
theorem me_905 : meB 905 = true := by decide +kernel
set_option maxRecDepth 1000000 in
theorem me_906 : meB 906 = true := by decide +kernel
set_option maxRecDepth 1000000 in
theorem me_907 : meB 907 = true := by decide +kernel
set_option maxRecDepth 1000000 in
theorem me_908 : meB 908 = true := by decide +kernel
set_option maxRecDepth 1000000 in
theorem me_909 : meB 909 = true := by decide +kernel
set_option maxRecDepth 1000000 in
theorem me_910 : meB 910 = true := by decide +kernel
set_option maxRecDepth 1000000 in
theorem me_911 : meB 911 = true := by decide +kernel
set_option maxRecDepth 1000000 in
theorem me_912 : meB 912 = true := by decide +kernel
set_option maxRecDepth 1000000 in
theorem me_913 : meB 913 = true := by decide +kernel
set_option maxRecDepth 1000000 in
theorem me_914 : meB 914 = true := by decide +kernel
set_option maxRecDepth 1000000 in
theorem me_915 : meB 915 = true := by decide +kernel
set_option maxRecDepth 1000000 in
theorem me_916 : meB 916 = true := by decide +kernel
set_option maxRecDepth 1000000 in
theorem me_917 : meB 917 = true := by decide +kernel
set_option maxRecDepth 1000000 in
theorem me_918 : meB 918 = true := by decide +kernel
set_option maxRecDepth 1000000 in
theorem me_919 : meB 919 = true := by decide +kernel
set_option maxRecDepth 1000000 in
theorem me_920 : meB 920 = true := by decide +kernel
set_option maxRecDepth 1000000 in
theorem me_921 : meB 921 = true := by decide +kernel
set_option maxRecDepth 1000000 in
theorem me_922 : meB 922 = true := by decide +kernel
set_option maxRecDepth 1000000 in
theorem me_923 : meB 923 = true := by decide +kernel
set_option maxRecDepth 1000000 in
theorem me_924 : meB 924 = true := by decide +kernel
set_option maxRecDepth 1000000 in
theorem me_925 : meB 925 = true := by decide +kernel
set_option maxRecDepth 1000000 in
theorem me_926 : meB 926 = true := by decide +kernel
set_option maxRecDepth 1000000 in
theorem me_927 : meB 927 = true := by decide +kernel
set_option maxRecDepth 1000000 in
theorem me_928 : meB 928 = true := by decide +kernel
set_option maxRecDepth 1000000 in
theorem me_929 : meB 929 = true := by decide +kernel
set_option maxRecDepth 1000000 in
theorem me_930 : meB 930 = true := by decide +kernel
set_option maxRecDepth 1000000 in
theorem me_931 : meB 931 = true := by decide +kernel
set_option maxRecDepth 1000000 in
theorem me_932 : meB 932 = true := by decide +kernel
set_option maxRecDepth 1000000 in
theorem me_933 : meB 933 = true := by decide +kernel
set_option maxRecDepth 1000000 in
theorem me_934 : meB 934 = true := by decide +kernel
set_option maxRecDepth 1000000 in
theorem me_935 : meB 935 = true := by decide +kernel
set_option maxRecDepth 1000000 in
theorem me_936 : meB 936 = true := by decide +kernel
set_option maxRecDepth 1000000 in
theorem me_937 : meB 937 = true := by decide +kernel
set_option maxRecDepth 1000000 in
theorem me_938 : meB 938 = true := by decide +kernel
set_option maxRecDepth 1000000 in
theorem me_939 : meB 939 = true := by decide +kernel
set_option maxRecDepth 1000000 in
theorem me_940 : meB 940 = true := by decide +kernel
set_option maxRecDepth 1000000 in
theorem me_941 : meB 941 = true := by decide +kernel
set_option maxRecDepth 1000000 in
theorem me_942 : meB 942 = true := by decide +kernel
set_option maxRecDepth 1000000 in
theorem me_943 : meB 943 = true := by decide +kernel
set_option maxRecDepth 1000000 in
theorem me_944 : meB 944 = true := by decide +kernel
set_option maxRecDepth 1000000 in
theorem me_945 : meB 945 = true := by decide +kernel
set_option maxRecDepth 1000000 in
theorem me_1001 : meB 1001 = true := by decide +kernel
set_option maxRecDepth 1000000 in
theorem me_1002 : meB 1002 = true := by decide +kernel
set_option maxRecDepth 1000000 in
theorem me_1003 : meB 1003 = true := by decide +kernel
set_option maxRecDepth 1000000 in
theorem me_1004 : meB 1004 = true := by decide +kernel
set_option maxRecDepth 1000000 in
theorem me_1005 : meB 1005 = true := by decide +kernel
set_option maxRecDepth 1000000 in
theorem me_1006 : meB 1006 = true := by decide +kernel
set_option maxRecDepth 1000000 in
theorem me_1007 : meB 1007 = true := by decide +kernel
set_option maxRecDepth 1000000 in
theorem me_1008 : meB 1008 = true := by decide +kernel
set_option maxRecDepth 1000000 in
theorem me_1009 : meB 1009 = true := by decide +kernel
set_option maxRecDepth 1000000 in
theorem me_1010 : meB 1010 = true := by decide +kernel
set_option maxRecDepth 1000000 in
theorem me_1011 : meB 1011 = true := by decide +kernel
set_option maxRecDepth 1000000 in
theorem me_1012 : meB 1012 = true := by decide +kernel
set_option maxRecDepth 1000000 in
theorem me_1013 : meB 1013 = true := by decide +kernel
set_option maxRecDepth 1000000 in
theorem me_1014 : meB 1014 = true := by decide +kernel
set_option maxRecDepth 1000000 in
theorem me_1015 : meB 1015 = true := by decide +kernel
set_option maxRecDepth 1000000 in
theorem me_1016 : meB 1016 = true := by decide +kernel
set_option maxRecDepth 1000000 in
theorem me_1017 : meB 1017 = true := by decide +kernel
set_option maxRecDepth 1000000 in
theorem me_1018 : meB 1018 = true := by decide +kernel
set_option maxRecDepth 1000000 in
theorem me_1019 : meB 1019 = true := by decide +kernel
set_option maxRecDepth 1000000 in
theorem me_1020 : meB 1020 = true := by decide +kernel
set_option maxRecDepth 1000000 in
theorem me_1021 : meB 1021 = true := by decide +kernel
set_option maxRecDepth 1000000 in
theorem me_1022 : meB 1022 = true := by decide +kernel
set_option maxRecDepth 1000000 in
theorem me_1023 : meB 1023 = true := by decide +kernel
set_option maxRecDepth 1000000 in
theorem me_1024 : meB 1024 = true := by decide +kernel
set_option maxRecDepth 1000000 in
theorem me_1025 : meB 1025 = true := by decide +kernel
set_option maxRecDepth 1000000 in
theorem me_1026 : meB 1026 = true := by decide +kernel
set_option maxRecDepth 1000000 in
theorem me_1027 : meB 1027 = true := by decide +kernel
set_option maxRecDepth 1000000 in
theorem me_1028 : meB 1028 = true := by decide +kernel
set_option maxRecDepth 1000000 in
theorem me_1029 : meB 1029 = true := by decide +kernel
set_option maxRecDepth 1000000 in
theorem me_1030 : meB 1030 = true := by decide +kernel
set_option maxRecDepth 1000000 in
theorem me_1031 : meB 1031 = true := by decide +kernel
set_option maxRecDepth 1000000 in
theorem me_1032 : meB 1032 = true := by decide +kernel
set_option maxRecDepth 1000000 in
theorem me_1033 : meB 1033 = true := by decide +kernel
set_option maxRecDepth 1000000 in
theorem me_1034 : meB 1034 = true := by decide +kernel
set_option maxRecDepth 1000000 in
theorem me_1035 : meB 1035 = true := by decide +kernel
set_option maxRecDepth 1000000 in
theorem me_1036 : meB 1036 = true := by decide +kernel
set_option maxRecDepth 1000000 in
theorem me_1037 : meB 1037 = true := by decide +kernel
set_option maxRecDepth 1000000 in
theorem me_1038 : meB 1038 = true := by decide +kernel
set_option maxRecDepth 1000000 in
theorem me_1039 : meB 1039 = true := by decide +kernel
set_option maxRecDepth 1000000 in
theorem me_1040 : meB 1040 = true := by decide +kernel
set_option maxRecDepth 1000000 in
theorem me_1041 : meB 1041 = true := by decide +kernel
set_option maxRecDepth 1000000 in
theorem me_1042 : meB 1042 = true := by decide +kernel
set_option maxRecDepth 1000000 in
theorem me_1043 : meB 1043 = true := by decide +kernel
set_option maxRecDepth 1000000 in
theorem me_1044 : meB 1044 = true := by decide +kernel
set_option maxRecDepth 1000000 in
theorem me_1045 : meB 1045 = true := by decide +kernel
set_option maxRecDepth 1000000 in
theorem me_1046 : meB 1046 = true := by decide +kernel
set_option maxRecDepth 1000000 in
theorem me_1047 : meB 1047 = true := by decide +kernel
set_option maxRecDepth 1000000 in
theorem me_1048 : meB 1048 = true := by decide +kernel
set_option maxRecDepth 1000000 in
theorem me_1049 : meB 1049 = true := by decide +kernel
set_option maxRecDepth 1000000 in
theorem me_1050 : meB 1050 = true := by decide +kernel
set_option maxRecDepth 1000000 in
theorem me_1051 : meB 1051 = true := by decide +kernel
set_option maxRecDepth 1000000 in
theorem me_1052 : meB 1052 = true := by decide +kernel
set_option maxRecDepth 1000000 in
theorem me_1053 : meB 1053 = true := by decide +kernel
set_option maxRecDepth 1000000 in
theorem me_1054 : meB 1054 = true := by decide +kernel
set_option maxRecDepth 1000000 in
theorem me_1055 : meB 1055 = true := by decide +kernel
set_option maxRecDepth 1000000 in
theorem me_1056 : meB 1056 = true := by decide +kernel
set_option maxRecDepth 1000000 in
theorem me_1057 : meB 1057 = true := by decide +kernel
set_option maxRecDepth 1000000 in
theorem me_1058 : meB 1058 = true := by decide +kernel
set_option maxRecDepth 1000000 in
theorem me_1059 : meB 1059 = true := by decide +kernel
set_option maxRecDepth 1000000 in
theorem me_1060 : meB 1060 = true := by decide +kernel
set_option maxRecDepth 1000000 in
theorem me_1061 : meB 1061 = true := by decide +kernel
set_option maxRecDepth 1000000 in
theorem me_1062 : meB 1062 = true := by decide +kernel
set_option maxRecDepth 1000000 in
theorem me_1063 : meB 1063 = true := by decide +kernel
set_option maxRecDepth 1000000 in
theorem me_1064 : meB 1064 = true := by decide +kernel
set_option maxRecDepth 1000000 in
theorem me_1065 : meB 1065 = true := by decide +kernel
set_option maxRecDepth 1000000 in
theorem me_1066 : meB 1066 = true := by decide +kernel
set_option maxRecDepth 1000000 in
theorem me_1067 : meB 1067 = true := by decide +kernel
set_option maxRecDepth 1000000 in
theorem me_1068 : meB 1068 = true := by decide +kernel
set_option maxRecDepth 1000000 in
theorem me_1069 : meB 1069 = true := by decide +kernel
set_option maxRecDepth 1000000 in
theorem me_1070 : meB 1070 = true := by decide +kernel
set_option maxRecDepth 1000000 in
theorem me_1071 : meB 1071 = true := by decide +kernel
set_option maxRecDepth 1000000 in
theorem me_1072 : meB 1072 = true := by decide +kernel
set_option maxRecDepth 1000000 in
theorem me_1073 : meB 1073 = true := by decide +kernel
set_option maxRecDepth 1000000 in
theorem me_1074 : meB 1074 = true := by decide +kernel
set_option maxRecDepth 1000000 in
theorem me_1075 : meB 1075 = true := by decide +kernel
set_option maxRecDepth 1000000 in
theorem me_1076 : meB 1076 = true := by decide +kernel
set_option maxRecDepth 1000000 in
theorem me_1077 : meB 1077 = true := by decide +kernel
set_option maxRecDepth 1000000 in
theorem me_1078 : meB 1078 = true := by decide +kernel
set_option maxRecDepth 1000000 in
theorem me_1079 : meB 1079 = true := by decide +kernel
set_option maxRecDepth 1000000 in
theorem me_1080 : meB 1080 = true := by decide +kernel
set_option maxRecDepth 1000000 in
theorem me_1081 : meB 1081 = true := by decide +kernel
set_option maxRecDepth 1000000 in
theorem me_1082 : meB 1082 = true := by decide +kernel
set_option maxRecDepth 1000000 in
theorem me_1083 : meB 1083 = true := by decide +kernel
set_option maxRecDepth 1000000 in
theorem me_1084 : meB 1084 = true := by decide +kernel
set_option maxRecDepth 1000000 in
theorem me_1085 : meB 1085 = true := by decide +kernel
set_option maxRecDepth 1000000 in
theorem me_1086 : meB 1086 = true := by decide +kernel
set_option maxRecDepth 1000000 in
theorem me_1100 : meB 1100 = true := by decide +kernel
set_option maxRecDepth 1000000 in
theorem me_1101 : meB 1101 = true := by decide +kernel
set_option maxRecDepth 1000000 in
theorem me_1104 : meB 1104 = true := by decide +kernel
set_option maxRecDepth 1000000 in
theorem me_1200 : meB 1200 = true := by decide +kernel
set_option maxRecDepth 1000000 in
theorem me_1201 : meB 1201 = true := by decide +kernel
set_option maxRecDepth 1000000 in
theorem me_1202 : meB 1202 = true := by decide +kernel
set_option maxRecDepth 1000000 in
theorem me_1203 : meB 1203 = true := by decide +kernel
set_option maxRecDepth 1000000 in
theorem me_1204 : meB 1204 = true := by decide +kernel
set_option maxRecDepth 1000000 in
theorem me_1205 : meB 1205 = true := by decide +kernel
set_option maxRecDepth 1000000 in
theorem me_1206 : meB 1206 = true := by decide +kernel
set_option maxRecDepth 1000000 in
theorem me_1207 : meB 1207 = true := by decide +kernel
set_option maxRecDepth 1000000 in
theorem me_1208 : meB 1208 = true := by decide +kernel
set_option maxRecDepth 1000000 in
theorem me_1209 : meB 1209 = true := by decide +kernel
set_option maxRecDepth 1000000 in
theorem me_1210 : meB 1210 = true := by decide +kernel
set_option maxRecDepth 1000000 in
theorem me_1211 : meB 1211 = true := by decide +kernel
set_option maxRecDepth 1000000 in
theorem me_1212 : meB 1212 = true := by decide +kernel
set_option maxRecDepth 1000000 in
theorem me_1213 : meB 1213 = true := by decide +kernel
set_option maxRecDepth 1000000 in
theorem me_1214 : meB 1214 = true := by decide +kernel
set_option maxRecDepth 1000000 in
theorem me_1215 : meB 1215 = true := by decide +kernel
set_option maxRecDepth 1000000 in
theorem me_1216 : meB 1216 = true := by decide +kernel
set_option maxRecDepth 1000000 in
theorem me_1217 : meB 1217 = true := by decide +kernel
set_option maxRecDepth 1000000 in
theorem me_1218 : meB 1218 = true := by decide +kernel
set_option maxRecDepth 1000000 in
theorem me_1219 : meB 1219 = true := by decide +kernel
set_option maxRecDepth 1000000 in
theorem me_1220 : meB 1220 = true := by decide +kernel
set_option maxRecDepth 1000000 in
theorem me_1221 : meB 1221 = true := by decide +kernel
set_option maxRecDepth 1000000 in
theorem meL_b : ∀ q ∈ miL, meB q = true := List.forall_mem_cons.mpr ⟨me_1, List.forall_mem_cons.mpr ⟨me_2, List.forall_mem_cons.mpr ⟨me_3, List.forall_mem_cons.mpr ⟨me_4, List.forall_mem_cons.mpr ⟨me_5, List.forall_mem_cons.mpr ⟨me_6, List.forall_mem_cons.mpr ⟨me_7, List.forall_mem_cons.mpr ⟨me_8, List.forall_mem_cons.mpr ⟨me_9, List.forall_mem_cons.mpr ⟨me_10, List.forall_mem_cons.mpr ⟨me_11, List.forall_mem_cons.mpr ⟨me_101, List.forall_mem_cons.mpr ⟨me_102, List.forall_mem_cons.mpr ⟨me_103, List.forall_mem_cons.mpr ⟨me_104, List.forall_mem_cons.mpr ⟨me_201, List.forall_mem_cons.mpr ⟨me_202, List.forall_mem_cons.mpr ⟨me_203, List.forall_mem_cons.mpr ⟨me_204, List.forall_mem_cons.mpr ⟨me_205, List.forall_mem_cons.mpr ⟨me_206, List.forall_mem_cons.mpr ⟨me_207, List.forall_mem_cons.mpr ⟨me_208, List.forall_mem_cons.mpr ⟨me_209, List.forall_mem_cons.mpr ⟨me_210, List.forall_mem_cons.mpr ⟨me_211, List.forall_mem_cons.mpr ⟨me_212, List.forall_mem_cons.mpr ⟨me_213, List.forall_mem_cons.mpr ⟨me_214, List.forall_mem_cons.mpr ⟨me_215, List.forall_mem_cons.mpr ⟨me_216, List.forall_mem_cons.mpr ⟨me_217, List.forall_mem_cons.mpr ⟨me_301, List.forall_mem_cons.mpr ⟨me_302, List.forall_mem_cons.mpr ⟨me_303, List.forall_mem_cons.mpr ⟨me_304, List.forall_mem_cons.mpr ⟨me_305, List.forall_mem_cons.mpr ⟨me_306, List.forall_mem_cons.mpr ⟨me_308, List.forall_mem_cons.mpr ⟨me_309, List.forall_mem_cons.mpr ⟨me_310, List.forall_mem_cons.mpr ⟨me_311, List.forall_mem_cons.mpr ⟨me_312, List.forall_mem_cons.mpr ⟨me_313, List.forall_mem_cons.mpr ⟨me_314, List.forall_mem_cons.mpr ⟨me_315, List.forall_mem_cons.mpr ⟨me_316, List.forall_mem_cons.mpr ⟨me_401, List.forall_mem_cons.mpr ⟨me_402, List.forall_mem_cons.mpr ⟨me_403, List.forall_mem_cons.mpr ⟨me_404, List.forall_mem_cons.mpr ⟨me_405, List.forall_mem_cons.mpr ⟨me_406, List.forall_mem_cons.mpr ⟨me_407, List.forall_mem_cons.mpr ⟨me_408, List.forall_mem_cons.mpr ⟨me_409, List.forall_mem_cons.mpr ⟨me_410, List.forall_mem_cons.mpr ⟨me_411, List.forall_mem_cons.mpr ⟨me_412, List.forall_mem_cons.mpr ⟨me_413, List.forall_mem_cons.mpr ⟨me_414, List.forall_mem_cons.mpr ⟨me_415, List.forall_mem_cons.mpr ⟨me_416, List.forall_mem_cons.mpr ⟨me_501, List.forall_mem_cons.mpr ⟨me_502, List.forall_mem_cons.mpr ⟨me_503, List.forall_mem_cons.mpr ⟨me_504, List.forall_mem_cons.mpr ⟨me_505, List.forall_mem_cons.mpr ⟨me_506, List.forall_mem_cons.mpr ⟨me_507, List.forall_mem_cons.mpr ⟨me_508, List.forall_mem_cons.mpr ⟨me_509, List.forall_mem_cons.mpr ⟨me_510, List.forall_mem_cons.mpr ⟨me_511, List.forall_mem_cons.mpr ⟨me_512, List.forall_mem_cons.mpr ⟨me_514, List.forall_mem_cons.mpr ⟨me_515, List.forall_mem_cons.mpr ⟨me_516, List.forall_mem_cons.mpr ⟨me_517, List.forall_mem_cons.mpr ⟨me_518, List.forall_mem_cons.mpr ⟨me_519, List.forall_mem_cons.mpr ⟨me_520, List.forall_mem_cons.mpr ⟨me_521, List.forall_mem_cons.mpr ⟨me_522, List.forall_mem_cons.mpr ⟨me_523, List.forall_mem_cons.mpr ⟨me_524, List.forall_mem_cons.mpr ⟨me_525, List.forall_mem_cons.mpr ⟨me_526, List.forall_mem_cons.mpr ⟨me_527, List.forall_mem_cons.mpr ⟨me_528, List.forall_mem_cons.mpr ⟨me_529, List.forall_mem_cons.mpr ⟨me_530, List.forall_mem_cons.mpr ⟨me_531, List.forall_mem_cons.mpr ⟨me_601, List.forall_mem_cons.mpr ⟨me_602, List.forall_mem_cons.mpr ⟨me_603, List.forall_mem_cons.mpr ⟨me_604, List.forall_mem_cons.mpr ⟨me_605, List.forall_mem_cons.mpr ⟨me_606, List.forall_mem_cons.mpr ⟨me_607, List.forall_mem_cons.mpr ⟨me_608, List.forall_mem_cons.mpr ⟨me_609, List.forall_mem_cons.mpr ⟨me_610, List.forall_mem_cons.mpr ⟨me_611, List.forall_mem_cons.mpr ⟨me_612, List.forall_mem_cons.mpr ⟨me_701, List.forall_mem_cons.mpr ⟨me_702, List.forall_mem_cons.mpr ⟨me_703, List.forall_mem_cons.mpr ⟨me_704, List.forall_mem_cons.mpr ⟨me_705, List.forall_mem_cons.mpr ⟨me_801, List.forall_mem_cons.mpr ⟨me_901, List.forall_mem_cons.mpr ⟨me_902, List.forall_mem_cons.mpr ⟨me_903, List.forall_mem_cons.mpr ⟨me_904, List.forall_mem_cons.mpr ⟨me_905, List.forall_mem_cons.mpr ⟨me_906, List.forall_mem_cons.mpr ⟨me_907, List.forall_mem_cons.mpr ⟨me_908, List.forall_mem_cons.mpr ⟨me_909, List.forall_mem_cons.mpr ⟨me_910, List.forall_mem_cons.mpr ⟨me_911, List.forall_mem_cons.mpr ⟨me_912, List.forall_mem_cons.mpr ⟨me_913, List.forall_mem_cons.mpr ⟨me_914, List.forall_mem_cons.mpr ⟨me_915, List.forall_mem_cons.mpr ⟨me_916, List.forall_mem_cons.mpr ⟨me_917, List.forall_mem_cons.mpr ⟨me_918, List.forall_mem_cons.mpr ⟨me_919, List.forall_mem_cons.mpr ⟨me_920, List.forall_mem_cons.mpr ⟨me_921, List.forall_mem_cons.mpr ⟨me_922, List.forall_mem_cons.mpr ⟨me_923, List.forall_mem_cons.mpr ⟨me_924, List.forall_mem_cons.mpr ⟨me_925, List.forall_mem_cons.mpr ⟨me_926, List.forall_mem_cons.mpr ⟨me_927, List.forall_mem_cons.mpr ⟨me_928, List.forall_mem_cons.mpr ⟨me_929, List.forall_mem_cons.mpr ⟨me_930, List.forall_mem_cons.mpr ⟨me_931, List.forall_mem_cons.mpr ⟨me_932, List.forall_mem_cons.mpr ⟨me_933, List.forall_mem_cons.mpr ⟨me_934, List.forall_mem_cons.mpr ⟨me_935, List.forall_mem_cons.mpr ⟨me_936, List.forall_mem_cons.mpr ⟨me_937, List.forall_mem_cons.mpr ⟨me_938, List.forall_mem_cons.mpr ⟨me_939, List.forall_mem_cons.mpr ⟨me_940, List.forall_mem_cons.mpr ⟨me_941, List.forall_mem_cons.mpr ⟨me_942, List.forall_mem_cons.mpr ⟨me_943, List.forall_mem_cons.mpr ⟨me_944, List.forall_mem_cons.mpr ⟨me_945, List.forall_mem_cons.mpr ⟨me_1001, List.forall_mem_cons.mpr ⟨me_1002, List.forall_mem_cons.mpr ⟨me_1003, List.forall_mem_cons.mpr ⟨me_1004, List.forall_mem_cons.mpr ⟨me_1005, List.forall_mem_cons.mpr ⟨me_1006, List.forall_mem_cons.mpr ⟨me_1007, List.forall_mem_cons.mpr ⟨me_1008, List.forall_mem_cons.mpr ⟨me_1009, List.forall_mem_cons.mpr ⟨me_1010, List.forall_mem_cons.mpr ⟨me_1011, List.forall_mem_cons.mpr ⟨me_1012, List.forall_mem_cons.mpr ⟨me_1013, List.forall_mem_cons.mpr ⟨me_1014, List.forall_mem_cons.mpr ⟨me_1015, List.forall_mem_cons.mpr ⟨me_1016, List.forall_mem_cons.mpr ⟨me_1017, List.forall_mem_cons.mpr ⟨me_1018, List.forall_mem_cons.mpr ⟨me_1019, List.forall_mem_cons.mpr ⟨me_1020, List.forall_mem_cons.mpr ⟨me_1021, List.forall_mem_cons.mpr ⟨me_1022, List.forall_mem_cons.mpr ⟨me_1023, List.forall_mem_cons.mpr ⟨me_1024, List.forall_mem_cons.mpr ⟨me_1025, List.forall_mem_cons.mpr ⟨me_1026, List.forall_mem_cons.mpr ⟨me_1027, List.forall_mem_cons.mpr ⟨me_1028, List.forall_mem_cons.mpr ⟨me_1029, List.forall_mem_cons.mpr ⟨me_1030, List.forall_mem_cons.mpr ⟨me_1031, List.forall_mem_cons.mpr ⟨me_1032, List.forall_mem_cons.mpr ⟨me_1033, List.forall_mem_cons.mpr ⟨me_1034, List.forall_mem_cons.mpr ⟨me_1035, List.forall_mem_cons.mpr ⟨me_1036, List.forall_mem_cons.mpr ⟨me_1037, List.forall_mem_cons.mpr ⟨me_1038, List.forall_mem_cons.mpr ⟨me_1039, List.forall_mem_cons.mpr ⟨me_1040, List.forall_mem_cons.mpr ⟨me_1041, List.forall_mem_cons.mpr ⟨me_1042, List.forall_mem_cons.mpr ⟨me_1043, List.forall_mem_cons.mpr ⟨me_1044, List.forall_mem_cons.mpr ⟨me_1045, List.forall_mem_cons.mpr ⟨me_1046, List.forall_mem_cons.mpr ⟨me_1047, List.forall_mem_cons.mpr ⟨me_1048, List.forall_mem_cons.mpr ⟨me_1049, List.forall_mem_cons.mpr ⟨me_1050, List.forall_mem_cons.mpr ⟨me_1051, List.forall_mem_cons.mpr ⟨me_1052, List.forall_mem_cons.mpr ⟨me_1053, List.forall_mem_cons.mpr ⟨me_1054, List.forall_mem_cons.mpr ⟨me_1055, List.forall_mem_cons.mpr ⟨me_1056, List.forall_mem_cons.mpr ⟨me_1057, List.forall_mem_cons.mpr ⟨me_1058, List.forall_mem_cons.mpr ⟨me_1059, List.forall_mem_cons.mpr ⟨me_1060, List.forall_mem_cons.mpr ⟨me_1061, List.forall_mem_cons.mpr ⟨me_1062, List.forall_mem_cons.mpr ⟨me_1063, List.forall_mem_cons.mpr ⟨me_1064, List.forall_mem_cons.mpr ⟨me_1065, List.forall_mem_cons.mpr ⟨me_1066, List.forall_mem_cons.mpr ⟨me_1067, List.forall_mem_cons.mpr ⟨me_1068, List.forall_mem_cons.mpr ⟨me_1069, List.forall_mem_cons.mpr ⟨me_1070, List.forall_mem_cons.mpr ⟨me_1071, List.forall_mem_cons.mpr ⟨me_1072, List.forall_mem_cons.mpr ⟨me_1073, List.forall_mem_cons.mpr ⟨me_1074, List.forall_mem_cons.mpr ⟨me_1075, List.forall_mem_cons.mpr ⟨me_1076, List.forall_mem_cons.mpr ⟨me_1077, List.forall_mem_cons.mpr ⟨me_1078, List.forall_mem_cons.mpr ⟨me_1079, List.forall_mem_cons.mpr ⟨me_1080, List.forall_mem_cons.mpr ⟨me_1081, List.forall_mem_cons.mpr ⟨me_1082, List.forall_mem_cons.mpr ⟨me_1083, List.forall_mem_cons.mpr ⟨me_1084, List.forall_mem_cons.mpr ⟨me_1085, List.forall_mem_cons.mpr ⟨me_1086, List.forall_mem_cons.mpr ⟨me_1100, List.forall_mem_cons.mpr ⟨me_1101, List.forall_mem_cons.mpr ⟨me_1104, List.forall_mem_cons.mpr ⟨me_1200, List.forall_mem_cons.mpr ⟨me_1201, List.forall_mem_cons.mpr ⟨me_1202, List.forall_mem_cons.mpr ⟨me_1203, List.forall_mem_cons.mpr ⟨me_1204, List.forall_mem_cons.mpr ⟨me_1205, List.forall_mem_cons.mpr ⟨me_1206, List.forall_mem_cons.mpr ⟨me_1207, List.forall_mem_cons.mpr ⟨me_1208, List.forall_mem_cons.mpr ⟨me_1209, List.forall_mem_cons.mpr ⟨me_1210, List.forall_mem_cons.mpr ⟨me_1211, List.forall_mem_cons.mpr ⟨me_1212, List.forall_mem_cons.mpr ⟨me_1213, List.forall_mem_cons.mpr ⟨me_1214, List.forall_mem_cons.mpr ⟨me_1215, List.forall_mem_cons.mpr ⟨me_1216, List.forall_mem_cons.mpr ⟨me_1217, List.forall_mem_cons.mpr ⟨me_1218, List.forall_mem_cons.mpr ⟨me_1219, List.forall_mem_cons.mpr ⟨me_1220, List.forall_mem_cons.mpr ⟨me_1221, fun _ h => absurd h List.not_mem_nil⟩⟩⟩⟩⟩⟩⟩⟩⟩⟩⟩⟩⟩⟩⟩⟩⟩⟩⟩⟩⟩⟩⟩⟩⟩⟩⟩⟩⟩⟩⟩⟩⟩⟩⟩⟩⟩⟩⟩⟩⟩⟩⟩⟩⟩⟩⟩⟩⟩⟩⟩⟩⟩⟩⟩⟩⟩⟩⟩⟩⟩⟩⟩⟩⟩⟩⟩⟩⟩⟩⟩⟩⟩⟩⟩⟩⟩⟩⟩⟩⟩⟩⟩⟩⟩⟩⟩⟩⟩⟩⟩⟩⟩⟩⟩⟩⟩⟩⟩⟩⟩⟩⟩⟩⟩⟩⟩⟩⟩⟩⟩⟩⟩⟩⟩⟩⟩⟩⟩⟩⟩⟩⟩⟩⟩⟩⟩⟩⟩⟩⟩⟩⟩⟩⟩⟩⟩⟩⟩⟩⟩⟩⟩⟩⟩⟩⟩⟩⟩⟩⟩⟩⟩⟩⟩⟩⟩⟩⟩⟩⟩⟩⟩⟩⟩⟩⟩⟩⟩⟩⟩⟩⟩⟩⟩⟩⟩⟩⟩⟩⟩⟩⟩⟩⟩⟩⟩⟩⟩⟩⟩⟩⟩⟩⟩⟩⟩⟩⟩⟩⟩⟩⟩⟩⟩⟩⟩⟩⟩⟩⟩⟩⟩⟩⟩⟩⟩⟩⟩⟩⟩⟩⟩⟩⟩⟩⟩⟩⟩⟩⟩⟩⟩⟩⟩⟩⟩⟩⟩⟩⟩⟩⟩⟩⟩⟩⟩⟩⟩⟩⟩⟩⟩⟩⟩⟩⟩⟩⟩⟩⟩⟩⟩⟩⟩⟩⟩
