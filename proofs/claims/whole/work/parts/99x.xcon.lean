/-! THE CLASS'S CONSTRUCTOR -/
def iX1 : Hp := uI (mk (hp1 5) 0 0) ((hp1 5).1) 0 (0 : Int32)
def iX2 : Hp := mk iX1 7 (6 : Int32).toNatClampNeg
def iX3 : Hp := uR iX2 ((hp1 5).1) 1 (some iX1.1)
def iX4 : Hp := mk iX3 7 (6 : Int32).toNatClampNeg
def iX5 : Hp := uR iX4 ((hp1 5).1) 2 (some iX3.1)
def iX6 : Hp := mk iX5 7 (6 : Int32).toNatClampNeg
def iX7 : Hp := uR iX6 ((hp1 5).1) 3 (some iX5.1)
def iX8 : Hp := mk iX7 7 (6 : Int32).toNatClampNeg
def iX9 : Hp := uR iX8 ((hp1 5).1) 4 (some iX7.1)
def iX10 : Hp := uI iX9 ((hp1 5).1) 5 (0 : Int32)
def iX11 : Hp := mk iX10 7 (10 : Int32).toNatClampNeg
def iX12 : Hp := uR iX11 ((hp1 5).1) 6 (some iX10.1)
def iX13 : Hp := mk iX12 7 (10 : Int32).toNatClampNeg
def iX14 : Hp := uR iX13 ((hp1 5).1) 7 (some iX12.1)
def iX15 : Hp := mk iX14 7 (10 : Int32).toNatClampNeg
def iX16 : Hp := uR iX15 ((hp1 5).1) 8 (some iX14.1)
def iX17 : Hp := uI iX16 ((hp1 5).1) 9 (0 : Int32)
def iX18 : Hp := uI iX17 ((hp1 5).1) 10 (0 : Int32)
def iX19 : Hp := uR iX18 ((hp1 5).1) 11 none
def iX20 : Hp := mk iX19 7 (6 : Int32).toNatClampNeg
def iX21 : Hp := uR iX20 ((hp1 5).1) 12 (some iX19.1)
def iX22 : Hp := mk iX21 7 (6 : Int32).toNatClampNeg
def iX23 : Hp := uR iX22 ((hp1 5).1) 13 (some iX21.1)
def iX24 : Hp := mk iX23 7 (6 : Int32).toNatClampNeg
def iX25 : Hp := uR iX24 ((hp1 5).1) 14 (some iX23.1)
def iX26 : Hp := uR iX25 (0) 0 (some (hp1 5).1)
def iX27 : Hp := uI (mk iX26 0 0) (iX26.1) 0 (0 : Int32)
def iX28 : Hp := mk iX27 7 (6 : Int32).toNatClampNeg
def iX29 : Hp := uR iX28 (iX26.1) 1 (some iX27.1)
def iX30 : Hp := mk iX29 7 (6 : Int32).toNatClampNeg
def iX31 : Hp := uR iX30 (iX26.1) 2 (some iX29.1)
def iX32 : Hp := mk iX31 7 (6 : Int32).toNatClampNeg
def iX33 : Hp := uR iX32 (iX26.1) 3 (some iX31.1)
def iX34 : Hp := mk iX33 7 (6 : Int32).toNatClampNeg
def iX35 : Hp := uR iX34 (iX26.1) 4 (some iX33.1)
def iX36 : Hp := uI iX35 (iX26.1) 5 (0 : Int32)
def iX37 : Hp := mk iX36 7 (10 : Int32).toNatClampNeg
def iX38 : Hp := uR iX37 (iX26.1) 6 (some iX36.1)
def iX39 : Hp := mk iX38 7 (10 : Int32).toNatClampNeg
def iX40 : Hp := uR iX39 (iX26.1) 7 (some iX38.1)
def iX41 : Hp := mk iX40 7 (10 : Int32).toNatClampNeg
def iX42 : Hp := uR iX41 (iX26.1) 8 (some iX40.1)
def iX43 : Hp := uI iX42 (iX26.1) 9 (0 : Int32)
def iX44 : Hp := uI iX43 (iX26.1) 10 (0 : Int32)
def iX45 : Hp := uR iX44 (iX26.1) 11 none
def iX46 : Hp := mk iX45 7 (6 : Int32).toNatClampNeg
def iX47 : Hp := uR iX46 (iX26.1) 12 (some iX45.1)
def iX48 : Hp := mk iX47 7 (6 : Int32).toNatClampNeg
def iX49 : Hp := uR iX48 (iX26.1) 13 (some iX47.1)
def iX50 : Hp := mk iX49 7 (6 : Int32).toNatClampNeg
def iX51 : Hp := uR iX50 (iX26.1) 14 (some iX49.1)
def iX52 : Hp := uR iX51 (0) 1 (some iX26.1)
def iX53 : Hp := uI (mk iX52 0 0) (iX52.1) 0 (0 : Int32)
def iX54 : Hp := mk iX53 7 (6 : Int32).toNatClampNeg
def iX55 : Hp := uR iX54 (iX52.1) 1 (some iX53.1)
def iX56 : Hp := mk iX55 7 (6 : Int32).toNatClampNeg
def iX57 : Hp := uR iX56 (iX52.1) 2 (some iX55.1)
def iX58 : Hp := mk iX57 7 (6 : Int32).toNatClampNeg
def iX59 : Hp := uR iX58 (iX52.1) 3 (some iX57.1)
def iX60 : Hp := mk iX59 7 (6 : Int32).toNatClampNeg
def iX61 : Hp := uR iX60 (iX52.1) 4 (some iX59.1)
def iX62 : Hp := uI iX61 (iX52.1) 5 (0 : Int32)
def iX63 : Hp := mk iX62 7 (10 : Int32).toNatClampNeg
def iX64 : Hp := uR iX63 (iX52.1) 6 (some iX62.1)
def iX65 : Hp := mk iX64 7 (10 : Int32).toNatClampNeg
def iX66 : Hp := uR iX65 (iX52.1) 7 (some iX64.1)
def iX67 : Hp := mk iX66 7 (10 : Int32).toNatClampNeg
def iX68 : Hp := uR iX67 (iX52.1) 8 (some iX66.1)
def iX69 : Hp := uI iX68 (iX52.1) 9 (0 : Int32)
def iX70 : Hp := uI iX69 (iX52.1) 10 (0 : Int32)
def iX71 : Hp := uR iX70 (iX52.1) 11 none
def iX72 : Hp := mk iX71 7 (6 : Int32).toNatClampNeg
def iX73 : Hp := uR iX72 (iX52.1) 12 (some iX71.1)
def iX74 : Hp := mk iX73 7 (6 : Int32).toNatClampNeg
def iX75 : Hp := uR iX74 (iX52.1) 13 (some iX73.1)
def iX76 : Hp := mk iX75 7 (6 : Int32).toNatClampNeg
def iX77 : Hp := uR iX76 (iX52.1) 14 (some iX75.1)
def iX78 : Hp := uR iX77 (0) 2 (some iX52.1)
def iX79 : Hp := uI iX78 (0) 3 (0 : Int32)
def iX80 : Hp := mk (mk iX79 4 0) 7 (160 : Int32).toNatClampNeg
def iX81 : Hp := uR iX80 (iX79.1) 0 (some (mk iX79 4 0).1)
def iX82 : Hp := uI iX81 (iX79.1) 1 (0 : Int32)
def iX83 : Hp := mk iX82 7 (161 : Int32).toNatClampNeg
def iX84 : Hp := uR iX83 (iX79.1) 2 (some iX82.1)
def iX85 : Hp := mk iX84 7 (161 : Int32).toNatClampNeg
def iX86 : Hp := uR iX85 (iX79.1) 3 (some iX84.1)
def iX87 : Hp := mk iX86 7 (161 : Int32).toNatClampNeg
def iX88 : Hp := uR iX87 (iX79.1) 4 (some iX86.1)
def iX89 : Hp := uR iX88 (0) 4 (some iX79.1)
def iX90 : Hp := uI (mk iX89 2 0) (iX89.1) 1 (-1 : Int32)
def iX91 : Hp := uI iX90 (iX89.1) 2 (0 : Int32)
def iX92 : Hp := mk iX91 7 (160 : Int32).toNatClampNeg
def iX93 : Hp := uR iX92 (iX89.1) 3 (some iX91.1)
def iX94 : Hp := uI iX93 (iX89.1) 4 (0 : Int32)
def iX95 : Hp := mk iX94 7 (3 : Int32).toNatClampNeg
def iX96 : Hp := uR iX95 (iX89.1) 5 (some iX94.1)
def iX97 : Hp := uR iX96 (iX89.1) 0 (some 34)
def iX98 : Hp := uR iX97 (0) 5 (some iX89.1)
def iX99 : Hp := mk iX98 8 (6 : Int32).toNatClampNeg
def iX100 : Hp := uR iX99 (0) 6 (some iX98.1)
def iX101 : Hp := uI iX100 (0) 7 (0 : Int32)
def iX102 : Hp := mk iX101 9 (4 : Int32).toNatClampNeg
def iX103 : Hp := uR iX102 (0) 8 (some iX101.1)
def iX104 : Hp := mk iX103 7 (10 : Int32).toNatClampNeg
def iX105 : Hp := uR iX104 (0) 9 (some iX103.1)
def iX106 : Hp := uI (mk iX105 3 0) (iX105.1) 0 (-1 : Int32)
def iX107 : Hp := uI iX106 (iX105.1) 1 (0 : Int32)
def iX108 : Hp := mk iX107 7 (40 : Int32).toNatClampNeg
def iX109 : Hp := uR iX108 (iX105.1) 2 (some iX107.1)
def iX110 : Hp := uR iX109 (43) (0 : Int32).toNatClampNeg (some iX105.1)
def iX111 : Hp := uI (mk iX110 3 0) (iX110.1) 0 (-1 : Int32)
def iX112 : Hp := uI iX111 (iX110.1) 1 (0 : Int32)
def iX113 : Hp := mk iX112 7 (40 : Int32).toNatClampNeg
def iX114 : Hp := uR iX113 (iX110.1) 2 (some iX112.1)
def iX115 : Hp := uR iX114 (43) ((0 : Int32) + (1 : Int32)).toNatClampNeg (some iX110.1)
def iX116 : Hp := uI (mk iX115 3 0) (iX115.1) 0 (-1 : Int32)
def iX117 : Hp := uI iX116 (iX115.1) 1 (0 : Int32)
def iX118 : Hp := mk iX117 7 (40 : Int32).toNatClampNeg
def iX119 : Hp := uR iX118 (iX115.1) 2 (some iX117.1)
def iX120 : Hp := uR iX119 (43) (((0 : Int32) + (1 : Int32)) + (1 : Int32)).toNatClampNeg (some iX115.1)
def iX121 : Hp := uI (mk iX120 3 0) (iX120.1) 0 (-1 : Int32)
def iX122 : Hp := uI iX121 (iX120.1) 1 (0 : Int32)
def iX123 : Hp := mk iX122 7 (40 : Int32).toNatClampNeg
def iX124 : Hp := uR iX123 (iX120.1) 2 (some iX122.1)
def iX125 : Hp := uR iX124 (43) ((((0 : Int32) + (1 : Int32)) + (1 : Int32)) + (1 : Int32)).toNatClampNeg (some iX120.1)
theorem siX1 : SB 53 15 iX1 := SB_uI (SB_mk (SB_0 (by decide)) (by decide +kernel))
theorem siX2 : SB 53 15 iX2 := SB_mk siX1 (by decide +kernel)
theorem siX3 : SB 53 15 iX3 := SB_uR siX2 (by decide +kernel)
theorem siX4 : SB 53 15 iX4 := SB_mk siX3 (by decide +kernel)
theorem siX5 : SB 53 15 iX5 := SB_uR siX4 (by decide +kernel)
theorem siX6 : SB 53 15 iX6 := SB_mk siX5 (by decide +kernel)
theorem siX7 : SB 53 15 iX7 := SB_uR siX6 (by decide +kernel)
theorem siX8 : SB 53 15 iX8 := SB_mk siX7 (by decide +kernel)
theorem siX9 : SB 53 15 iX9 := SB_uR siX8 (by decide +kernel)
theorem siX10 : SB 53 15 iX10 := SB_uI siX9
theorem siX11 : SB 53 15 iX11 := SB_mk siX10 (by decide +kernel)
theorem siX12 : SB 53 15 iX12 := SB_uR siX11 (by decide +kernel)
theorem siX13 : SB 53 15 iX13 := SB_mk siX12 (by decide +kernel)
theorem siX14 : SB 53 15 iX14 := SB_uR siX13 (by decide +kernel)
theorem siX15 : SB 53 15 iX15 := SB_mk siX14 (by decide +kernel)
theorem siX16 : SB 53 15 iX16 := SB_uR siX15 (by decide +kernel)
theorem siX17 : SB 53 15 iX17 := SB_uI siX16
theorem siX18 : SB 53 15 iX18 := SB_uI siX17
theorem siX19 : SB 53 15 iX19 := SB_uR siX18 (by decide +kernel)
theorem siX20 : SB 53 15 iX20 := SB_mk siX19 (by decide +kernel)
theorem siX21 : SB 53 15 iX21 := SB_uR siX20 (by decide +kernel)
theorem siX22 : SB 53 15 iX22 := SB_mk siX21 (by decide +kernel)
theorem siX23 : SB 53 15 iX23 := SB_uR siX22 (by decide +kernel)
theorem siX24 : SB 53 15 iX24 := SB_mk siX23 (by decide +kernel)
theorem siX25 : SB 53 15 iX25 := SB_uR siX24 (by decide +kernel)
theorem siX26 : SB 53 15 iX26 := SB_uR siX25 (by decide +kernel)
theorem siX27 : SB 53 15 iX27 := SB_uI (SB_mk siX26 (by decide +kernel))
theorem siX28 : SB 53 15 iX28 := SB_mk siX27 (by decide +kernel)
theorem siX29 : SB 53 15 iX29 := SB_uR siX28 (by decide +kernel)
theorem siX30 : SB 53 15 iX30 := SB_mk siX29 (by decide +kernel)
theorem siX31 : SB 53 15 iX31 := SB_uR siX30 (by decide +kernel)
theorem siX32 : SB 53 15 iX32 := SB_mk siX31 (by decide +kernel)
theorem siX33 : SB 53 15 iX33 := SB_uR siX32 (by decide +kernel)
theorem siX34 : SB 53 15 iX34 := SB_mk siX33 (by decide +kernel)
theorem siX35 : SB 53 15 iX35 := SB_uR siX34 (by decide +kernel)
theorem siX36 : SB 53 15 iX36 := SB_uI siX35
theorem siX37 : SB 53 15 iX37 := SB_mk siX36 (by decide +kernel)
theorem siX38 : SB 53 15 iX38 := SB_uR siX37 (by decide +kernel)
theorem siX39 : SB 53 15 iX39 := SB_mk siX38 (by decide +kernel)
theorem siX40 : SB 53 15 iX40 := SB_uR siX39 (by decide +kernel)
theorem siX41 : SB 53 15 iX41 := SB_mk siX40 (by decide +kernel)
theorem siX42 : SB 53 15 iX42 := SB_uR siX41 (by decide +kernel)
theorem siX43 : SB 53 15 iX43 := SB_uI siX42
theorem siX44 : SB 53 15 iX44 := SB_uI siX43
theorem siX45 : SB 53 15 iX45 := SB_uR siX44 (by decide +kernel)
theorem siX46 : SB 53 15 iX46 := SB_mk siX45 (by decide +kernel)
theorem siX47 : SB 53 15 iX47 := SB_uR siX46 (by decide +kernel)
theorem siX48 : SB 53 15 iX48 := SB_mk siX47 (by decide +kernel)
theorem siX49 : SB 53 15 iX49 := SB_uR siX48 (by decide +kernel)
theorem siX50 : SB 53 15 iX50 := SB_mk siX49 (by decide +kernel)
theorem siX51 : SB 53 15 iX51 := SB_uR siX50 (by decide +kernel)
theorem siX52 : SB 53 15 iX52 := SB_uR siX51 (by decide +kernel)
theorem siX53 : SB 53 15 iX53 := SB_uI (SB_mk siX52 (by decide +kernel))
theorem siX54 : SB 53 15 iX54 := SB_mk siX53 (by decide +kernel)
theorem siX55 : SB 53 15 iX55 := SB_uR siX54 (by decide +kernel)
theorem siX56 : SB 53 15 iX56 := SB_mk siX55 (by decide +kernel)
theorem siX57 : SB 53 15 iX57 := SB_uR siX56 (by decide +kernel)
theorem siX58 : SB 53 15 iX58 := SB_mk siX57 (by decide +kernel)
theorem siX59 : SB 53 15 iX59 := SB_uR siX58 (by decide +kernel)
theorem siX60 : SB 53 15 iX60 := SB_mk siX59 (by decide +kernel)
theorem siX61 : SB 53 15 iX61 := SB_uR siX60 (by decide +kernel)
theorem siX62 : SB 53 15 iX62 := SB_uI siX61
theorem siX63 : SB 53 15 iX63 := SB_mk siX62 (by decide +kernel)
theorem siX64 : SB 53 15 iX64 := SB_uR siX63 (by decide +kernel)
theorem siX65 : SB 53 15 iX65 := SB_mk siX64 (by decide +kernel)
theorem siX66 : SB 53 15 iX66 := SB_uR siX65 (by decide +kernel)
theorem siX67 : SB 53 15 iX67 := SB_mk siX66 (by decide +kernel)
theorem siX68 : SB 53 15 iX68 := SB_uR siX67 (by decide +kernel)
theorem siX69 : SB 53 15 iX69 := SB_uI siX68
theorem siX70 : SB 53 15 iX70 := SB_uI siX69
theorem siX71 : SB 53 15 iX71 := SB_uR siX70 (by decide +kernel)
theorem siX72 : SB 53 15 iX72 := SB_mk siX71 (by decide +kernel)
theorem siX73 : SB 53 15 iX73 := SB_uR siX72 (by decide +kernel)
theorem siX74 : SB 53 15 iX74 := SB_mk siX73 (by decide +kernel)
theorem siX75 : SB 53 15 iX75 := SB_uR siX74 (by decide +kernel)
theorem siX76 : SB 53 15 iX76 := SB_mk siX75 (by decide +kernel)
theorem siX77 : SB 53 15 iX77 := SB_uR siX76 (by decide +kernel)
theorem siX78 : SB 53 15 iX78 := SB_uR siX77 (by decide +kernel)
theorem siX79 : SB 53 15 iX79 := SB_uI siX78
theorem siX80 : SB 53 15 iX80 := SB_mk (SB_mk siX79 (by decide +kernel)) (by decide +kernel)
theorem siX81 : SB 53 15 iX81 := SB_uR siX80 (by decide +kernel)
theorem siX82 : SB 53 15 iX82 := SB_uI siX81
theorem siX83 : SB 53 15 iX83 := SB_mk siX82 (by decide +kernel)
theorem siX84 : SB 53 15 iX84 := SB_uR siX83 (by decide +kernel)
theorem siX85 : SB 53 15 iX85 := SB_mk siX84 (by decide +kernel)
theorem siX86 : SB 53 15 iX86 := SB_uR siX85 (by decide +kernel)
theorem siX87 : SB 53 15 iX87 := SB_mk siX86 (by decide +kernel)
theorem siX88 : SB 53 15 iX88 := SB_uR siX87 (by decide +kernel)
theorem siX89 : SB 53 15 iX89 := SB_uR siX88 (by decide +kernel)
theorem siX90 : SB 53 15 iX90 := SB_uI (SB_mk siX89 (by decide +kernel))
theorem siX91 : SB 53 15 iX91 := SB_uI siX90
theorem siX92 : SB 53 15 iX92 := SB_mk siX91 (by decide +kernel)
theorem siX93 : SB 53 15 iX93 := SB_uR siX92 (by decide +kernel)
theorem siX94 : SB 53 15 iX94 := SB_uI siX93
theorem siX95 : SB 53 15 iX95 := SB_mk siX94 (by decide +kernel)
theorem siX96 : SB 53 15 iX96 := SB_uR siX95 (by decide +kernel)
theorem siX97 : SB 53 15 iX97 := SB_uR siX96 (by decide +kernel)
theorem siX98 : SB 53 15 iX98 := SB_uR siX97 (by decide +kernel)
theorem siX99 : SB 53 15 iX99 := SB_mk siX98 (by decide +kernel)
theorem siX100 : SB 53 15 iX100 := SB_uR siX99 (by decide +kernel)
theorem siX101 : SB 53 15 iX101 := SB_uI siX100
theorem siX102 : SB 53 15 iX102 := SB_mk siX101 (by decide +kernel)
theorem siX103 : SB 53 15 iX103 := SB_uR siX102 (by decide +kernel)
theorem siX104 : SB 53 15 iX104 := SB_mk siX103 (by decide +kernel)
theorem siX105 : SB 53 15 iX105 := SB_uR siX104 (by decide +kernel)
theorem siX106 : SB 53 15 iX106 := SB_uI (SB_mk siX105 (by decide +kernel))
theorem siX107 : SB 53 15 iX107 := SB_uI siX106
theorem siX108 : SB 53 15 iX108 := SB_mk siX107 (by decide +kernel)
theorem siX109 : SB 53 15 iX109 := SB_uR siX108 (by decide +kernel)
theorem siX110 : SB 53 15 iX110 := SB_uR siX109 (by decide +kernel)
theorem siX111 : SB 53 15 iX111 := SB_uI (SB_mk siX110 (by decide +kernel))
theorem siX112 : SB 53 15 iX112 := SB_uI siX111
theorem siX113 : SB 53 15 iX113 := SB_mk siX112 (by decide +kernel)
theorem siX114 : SB 53 15 iX114 := SB_uR siX113 (by decide +kernel)
theorem siX115 : SB 53 15 iX115 := SB_uR siX114 (by decide +kernel)
theorem siX116 : SB 53 15 iX116 := SB_uI (SB_mk siX115 (by decide +kernel))
theorem siX117 : SB 53 15 iX117 := SB_uI siX116
theorem siX118 : SB 53 15 iX118 := SB_mk siX117 (by decide +kernel)
theorem siX119 : SB 53 15 iX119 := SB_uR siX118 (by decide +kernel)
theorem siX120 : SB 53 15 iX120 := SB_uR siX119 (by decide +kernel)
theorem siX121 : SB 53 15 iX121 := SB_uI (SB_mk siX120 (by decide +kernel))
theorem siX122 : SB 53 15 iX122 := SB_uI siX121
theorem siX123 : SB 53 15 iX123 := SB_mk siX122 (by decide +kernel)
theorem siX124 : SB 53 15 iX124 := SB_uR siX123 (by decide +kernel)
theorem siX125 : SB 53 15 iX125 := SB_uR siX124 (by decide +kernel)
theorem iX_f1 : F_X0_init (mk (hp1 5) 0 0) (hp1 5).1 = some iX25 := by
  unfold F_X0_init
  refine g_pI (S' := iX1) rfl (by decide +kernel) ?_
  refine g_chn (by decide +kernel) ?_
  refine g_nA (S' := iX2) rfl (by decide +kernel) ?_
  refine g_pR (S' := iX3) rfl (by decide +kernel) ?_
  refine g_chn (by decide +kernel) ?_
  refine g_nA (S' := iX4) rfl (by decide +kernel) ?_
  refine g_pR (S' := iX5) rfl (by decide +kernel) ?_
  refine g_chn (by decide +kernel) ?_
  refine g_nA (S' := iX6) rfl (by decide +kernel) ?_
  refine g_pR (S' := iX7) rfl (by decide +kernel) ?_
  refine g_chn (by decide +kernel) ?_
  refine g_nA (S' := iX8) rfl (by decide +kernel) ?_
  refine g_pR (S' := iX9) rfl (by decide +kernel) ?_
  refine g_pI (S' := iX10) rfl (by decide +kernel) ?_
  refine g_chn (by decide +kernel) ?_
  refine g_nA (S' := iX11) rfl (by decide +kernel) ?_
  refine g_pR (S' := iX12) rfl (by decide +kernel) ?_
  refine g_chn (by decide +kernel) ?_
  refine g_nA (S' := iX13) rfl (by decide +kernel) ?_
  refine g_pR (S' := iX14) rfl (by decide +kernel) ?_
  refine g_chn (by decide +kernel) ?_
  refine g_nA (S' := iX15) rfl (by decide +kernel) ?_
  refine g_pR (S' := iX16) rfl (by decide +kernel) ?_
  refine g_pI (S' := iX17) rfl (by decide +kernel) ?_
  refine g_pI (S' := iX18) rfl (by decide +kernel) ?_
  refine g_pR (S' := iX19) rfl (by decide +kernel) ?_
  refine g_chn (by decide +kernel) ?_
  refine g_nA (S' := iX20) rfl (by decide +kernel) ?_
  refine g_pR (S' := iX21) rfl (by decide +kernel) ?_
  refine g_chn (by decide +kernel) ?_
  refine g_nA (S' := iX22) rfl (by decide +kernel) ?_
  refine g_pR (S' := iX23) rfl (by decide +kernel) ?_
  refine g_chn (by decide +kernel) ?_
  refine g_nA (S' := iX24) rfl (by decide +kernel) ?_
  refine g_pR (S' := iX25) rfl (by decide +kernel) ?_
  rfl
theorem iX_f2 : F_X0_init (mk iX26 0 0) iX26.1 = some iX51 := by
  unfold F_X0_init
  refine g_pI (S' := iX27) rfl (by decide +kernel) ?_
  refine g_chn (by decide +kernel) ?_
  refine g_nA (S' := iX28) rfl (by decide +kernel) ?_
  refine g_pR (S' := iX29) rfl (by decide +kernel) ?_
  refine g_chn (by decide +kernel) ?_
  refine g_nA (S' := iX30) rfl (by decide +kernel) ?_
  refine g_pR (S' := iX31) rfl (by decide +kernel) ?_
  refine g_chn (by decide +kernel) ?_
  refine g_nA (S' := iX32) rfl (by decide +kernel) ?_
  refine g_pR (S' := iX33) rfl (by decide +kernel) ?_
  refine g_chn (by decide +kernel) ?_
  refine g_nA (S' := iX34) rfl (by decide +kernel) ?_
  refine g_pR (S' := iX35) rfl (by decide +kernel) ?_
  refine g_pI (S' := iX36) rfl (by decide +kernel) ?_
  refine g_chn (by decide +kernel) ?_
  refine g_nA (S' := iX37) rfl (by decide +kernel) ?_
  refine g_pR (S' := iX38) rfl (by decide +kernel) ?_
  refine g_chn (by decide +kernel) ?_
  refine g_nA (S' := iX39) rfl (by decide +kernel) ?_
  refine g_pR (S' := iX40) rfl (by decide +kernel) ?_
  refine g_chn (by decide +kernel) ?_
  refine g_nA (S' := iX41) rfl (by decide +kernel) ?_
  refine g_pR (S' := iX42) rfl (by decide +kernel) ?_
  refine g_pI (S' := iX43) rfl (by decide +kernel) ?_
  refine g_pI (S' := iX44) rfl (by decide +kernel) ?_
  refine g_pR (S' := iX45) rfl (by decide +kernel) ?_
  refine g_chn (by decide +kernel) ?_
  refine g_nA (S' := iX46) rfl (by decide +kernel) ?_
  refine g_pR (S' := iX47) rfl (by decide +kernel) ?_
  refine g_chn (by decide +kernel) ?_
  refine g_nA (S' := iX48) rfl (by decide +kernel) ?_
  refine g_pR (S' := iX49) rfl (by decide +kernel) ?_
  refine g_chn (by decide +kernel) ?_
  refine g_nA (S' := iX50) rfl (by decide +kernel) ?_
  refine g_pR (S' := iX51) rfl (by decide +kernel) ?_
  rfl
theorem iX_f3 : F_X0_init (mk iX52 0 0) iX52.1 = some iX77 := by
  unfold F_X0_init
  refine g_pI (S' := iX53) rfl (by decide +kernel) ?_
  refine g_chn (by decide +kernel) ?_
  refine g_nA (S' := iX54) rfl (by decide +kernel) ?_
  refine g_pR (S' := iX55) rfl (by decide +kernel) ?_
  refine g_chn (by decide +kernel) ?_
  refine g_nA (S' := iX56) rfl (by decide +kernel) ?_
  refine g_pR (S' := iX57) rfl (by decide +kernel) ?_
  refine g_chn (by decide +kernel) ?_
  refine g_nA (S' := iX58) rfl (by decide +kernel) ?_
  refine g_pR (S' := iX59) rfl (by decide +kernel) ?_
  refine g_chn (by decide +kernel) ?_
  refine g_nA (S' := iX60) rfl (by decide +kernel) ?_
  refine g_pR (S' := iX61) rfl (by decide +kernel) ?_
  refine g_pI (S' := iX62) rfl (by decide +kernel) ?_
  refine g_chn (by decide +kernel) ?_
  refine g_nA (S' := iX63) rfl (by decide +kernel) ?_
  refine g_pR (S' := iX64) rfl (by decide +kernel) ?_
  refine g_chn (by decide +kernel) ?_
  refine g_nA (S' := iX65) rfl (by decide +kernel) ?_
  refine g_pR (S' := iX66) rfl (by decide +kernel) ?_
  refine g_chn (by decide +kernel) ?_
  refine g_nA (S' := iX67) rfl (by decide +kernel) ?_
  refine g_pR (S' := iX68) rfl (by decide +kernel) ?_
  refine g_pI (S' := iX69) rfl (by decide +kernel) ?_
  refine g_pI (S' := iX70) rfl (by decide +kernel) ?_
  refine g_pR (S' := iX71) rfl (by decide +kernel) ?_
  refine g_chn (by decide +kernel) ?_
  refine g_nA (S' := iX72) rfl (by decide +kernel) ?_
  refine g_pR (S' := iX73) rfl (by decide +kernel) ?_
  refine g_chn (by decide +kernel) ?_
  refine g_nA (S' := iX74) rfl (by decide +kernel) ?_
  refine g_pR (S' := iX75) rfl (by decide +kernel) ?_
  refine g_chn (by decide +kernel) ?_
  refine g_nA (S' := iX76) rfl (by decide +kernel) ?_
  refine g_pR (S' := iX77) rfl (by decide +kernel) ?_
  rfl
theorem iX_f4 : F_X6_init (mk iX79 4 0) iX79.1 = some iX88 := by
  unfold F_X6_init
  refine g_chn (by decide +kernel) ?_
  refine g_nA (S' := iX80) rfl (by decide +kernel) ?_
  refine g_pR (S' := iX81) rfl (by decide +kernel) ?_
  refine g_pI (S' := iX82) rfl (by decide +kernel) ?_
  refine g_chn (by decide +kernel) ?_
  refine g_nA (S' := iX83) rfl (by decide +kernel) ?_
  refine g_pR (S' := iX84) rfl (by decide +kernel) ?_
  refine g_chn (by decide +kernel) ?_
  refine g_nA (S' := iX85) rfl (by decide +kernel) ?_
  refine g_pR (S' := iX86) rfl (by decide +kernel) ?_
  refine g_chn (by decide +kernel) ?_
  refine g_nA (S' := iX87) rfl (by decide +kernel) ?_
  refine g_pR (S' := iX88) rfl (by decide +kernel) ?_
  rfl
theorem iX_f5 : F_X3_init (mk iX89 2 0) iX89.1 (some 34) = some iX97 := by
  unfold F_X3_init
  refine g_pI (S' := iX90) rfl (by decide +kernel) ?_
  refine g_pI (S' := iX91) rfl (by decide +kernel) ?_
  refine g_chn (by decide +kernel) ?_
  refine g_nA (S' := iX92) rfl (by decide +kernel) ?_
  refine g_pR (S' := iX93) rfl (by decide +kernel) ?_
  refine g_pI (S' := iX94) rfl (by decide +kernel) ?_
  refine g_chn (by decide +kernel) ?_
  refine g_nA (S' := iX95) rfl (by decide +kernel) ?_
  refine g_pR (S' := iX96) rfl (by decide +kernel) ?_
  refine g_pR (S' := iX97) rfl (by decide +kernel) ?_
  rfl
theorem iX_f6 : F_X4_init (mk iX105 3 0) iX105.1 = some iX109 := by
  unfold F_X4_init
  refine g_pI (S' := iX106) rfl (by decide +kernel) ?_
  refine g_pI (S' := iX107) rfl (by decide +kernel) ?_
  refine g_chn (by decide +kernel) ?_
  refine g_nA (S' := iX108) rfl (by decide +kernel) ?_
  refine g_pR (S' := iX109) rfl (by decide +kernel) ?_
  rfl
theorem iX_f7 : F_X4_init (mk iX110 3 0) iX110.1 = some iX114 := by
  unfold F_X4_init
  refine g_pI (S' := iX111) rfl (by decide +kernel) ?_
  refine g_pI (S' := iX112) rfl (by decide +kernel) ?_
  refine g_chn (by decide +kernel) ?_
  refine g_nA (S' := iX113) rfl (by decide +kernel) ?_
  refine g_pR (S' := iX114) rfl (by decide +kernel) ?_
  rfl
theorem iX_f8 : F_X4_init (mk iX115 3 0) iX115.1 = some iX119 := by
  unfold F_X4_init
  refine g_pI (S' := iX116) rfl (by decide +kernel) ?_
  refine g_pI (S' := iX117) rfl (by decide +kernel) ?_
  refine g_chn (by decide +kernel) ?_
  refine g_nA (S' := iX118) rfl (by decide +kernel) ?_
  refine g_pR (S' := iX119) rfl (by decide +kernel) ?_
  rfl
theorem iX_f9 : F_X4_init (mk iX120 3 0) iX120.1 = some iX124 := by
  unfold F_X4_init
  refine g_pI (S' := iX121) rfl (by decide +kernel) ?_
  refine g_pI (S' := iX122) rfl (by decide +kernel) ?_
  refine g_chn (by decide +kernel) ?_
  refine g_nA (S' := iX123) rfl (by decide +kernel) ?_
  refine g_pR (S' := iX124) rfl (by decide +kernel) ?_
  rfl
set_option maxRecDepth 100000 in
theorem x_ctr {fu : Nat} : F_X7_init fu (hp1 5) 0 = B_X7_init_130 fu (hp1 5).1 0 fu iX125 (0 : Int32) := by
  unfold F_X7_init
  refine g_chn (by decide +kernel) ?_
  refine g_ob (by decide +kernel) ?_
  refine g_chn (by decide +kernel) ?_
  refine g_call iX_f1 ?_
  refine g_pR (S' := iX26) rfl (by decide +kernel) ?_
  refine g_chn (by decide +kernel) ?_
  refine g_ob (by decide +kernel) ?_
  refine g_chn (by decide +kernel) ?_
  refine g_call iX_f2 ?_
  refine g_pR (S' := iX52) rfl (by decide +kernel) ?_
  refine g_chn (by decide +kernel) ?_
  refine g_ob (by decide +kernel) ?_
  refine g_chn (by decide +kernel) ?_
  refine g_call iX_f3 ?_
  refine g_pR (S' := iX78) rfl (by decide +kernel) ?_
  refine g_pI (S' := iX79) rfl (by decide +kernel) ?_
  refine g_chn (by decide +kernel) ?_
  refine g_ob (by decide +kernel) ?_
  refine g_chn (by decide +kernel) ?_
  refine g_call iX_f4 ?_
  refine g_pR (S' := iX89) rfl (by decide +kernel) ?_
  refine g_chn (by decide +kernel) ?_
  refine g_gR (v := some 34) (by decide +kernel) (by decide +kernel) ?_
  refine g_ob (by decide +kernel) ?_
  refine g_chn (by decide +kernel) ?_
  refine g_call iX_f5 ?_
  refine g_pR (S' := iX98) rfl (by decide +kernel) ?_
  refine g_chn (by decide +kernel) ?_
  refine g_nQ (S' := iX99) rfl (by decide +kernel) ?_
  refine g_pR (S' := iX100) rfl (by decide +kernel) ?_
  refine g_pI (S' := iX101) rfl (by decide +kernel) ?_
  refine g_chn (by decide +kernel) ?_
  refine g_nQ (S' := iX102) rfl (by decide +kernel) ?_
  refine g_pR (S' := iX103) rfl (by decide +kernel) ?_
  refine g_chn (by decide +kernel) ?_
  refine g_nA (S' := iX104) rfl (by decide +kernel) ?_
  refine g_pR (S' := iX105) rfl (by decide +kernel) ?_
  refine g_gR (v := some 43) (by decide +kernel) (by decide +kernel) ?_
  refine g_aL (len := 4) (by decide +kernel) (by decide +kernel) ?_
  refine g_ifn (by decide) ?_
  refine g_gR (v := some 43) (by decide +kernel) (by decide +kernel) ?_
  refine g_chn (by decide +kernel) ?_
  refine g_ob (by decide +kernel) ?_
  refine g_chn (by decide +kernel) ?_
  refine g_call iX_f6 ?_
  refine g_rP (S' := iX110) rfl (by decide +kernel) ?_
  refine g_gR (v := some 43) (by decide +kernel) (by decide +kernel) ?_
  refine g_aL (len := 4) (by decide +kernel) (by decide +kernel) ?_
  refine g_ifn (by decide) ?_
  refine g_gR (v := some 43) (by decide +kernel) (by decide +kernel) ?_
  refine g_chn (by decide +kernel) ?_
  refine g_ob (by decide +kernel) ?_
  refine g_chn (by decide +kernel) ?_
  refine g_call iX_f7 ?_
  refine g_rP (S' := iX115) rfl (by decide +kernel) ?_
  refine g_gR (v := some 43) (by decide +kernel) (by decide +kernel) ?_
  refine g_aL (len := 4) (by decide +kernel) (by decide +kernel) ?_
  refine g_ifn (by decide) ?_
  refine g_gR (v := some 43) (by decide +kernel) (by decide +kernel) ?_
  refine g_chn (by decide +kernel) ?_
  refine g_ob (by decide +kernel) ?_
  refine g_chn (by decide +kernel) ?_
  refine g_call iX_f8 ?_
  refine g_rP (S' := iX120) rfl (by decide +kernel) ?_
  refine g_gR (v := some 43) (by decide +kernel) (by decide +kernel) ?_
  refine g_aL (len := 4) (by decide +kernel) (by decide +kernel) ?_
  refine g_ifn (by decide) ?_
  refine g_gR (v := some 43) (by decide +kernel) (by decide +kernel) ?_
  refine g_chn (by decide +kernel) ?_
  refine g_ob (by decide +kernel) ?_
  refine g_chn (by decide +kernel) ?_
  refine g_call iX_f9 ?_
  refine g_rP (S' := iX125) rfl (by decide +kernel) ?_
  refine g_gR (v := some 43) (by decide +kernel) (by decide +kernel) ?_
  refine g_aL (len := 4) (by decide +kernel) (by decide +kernel) ?_
  refine g_ifp (by decide) ?_
  rfl
def q0 : Xp := (0, ((fun _ => 0), (none, (none, none))))
theorem x_sh : ∀ k, k < 53 → iX125.2.1 k = shX q0 k := by decide +kernel
theorem x_rv : ∀ k, k < 53 → ∀ j, j < 15 → iX125.2.2.2 k j = rvX q0 k j := by decide +kernel
theorem getD_hi {l : List (Option Nat)} {j : Nat} (h : l.length ≤ j) : l.getD j none = none := by
  rw [List.getD_eq_getElem?_getD, List.getElem?_eq_none h]
  rfl
theorem rvX_j {k j : Nat} (h : 15 ≤ j) : rvX q0 k j = none := by
  have h42 : ¬ j < q0.1 := Nat.not_lt_zero _
  unfold rvX evR
  rw [if_neg h42, if_neg (show ¬ j < 4 by omega)]
  by_cases e0 : k = 0
  · rw [if_pos e0]
    exact getD_hi (Nat.le_trans (by decide) h)
  rw [if_neg e0]
  by_cases e1 : k = 1
  · rw [if_pos e1]
    exact getD_hi (Nat.le_trans (by decide) h)
  rw [if_neg e1]
  by_cases e12 : k = 12
  · rw [if_pos e12]
    exact getD_hi (Nat.le_trans (by decide) h)
  rw [if_neg e12]
  by_cases e23 : k = 23
  · rw [if_pos e23]
    exact getD_hi (Nat.le_trans (by decide) h)
  rw [if_neg e23]
  by_cases e34 : k = 34
  · rw [if_pos e34]
    exact getD_hi (Nat.le_trans (by decide) h)
  rw [if_neg e34]
  by_cases e39 : k = 39
  · rw [if_pos e39]
    exact getD_hi (Nat.le_trans (by decide) h)
  rw [if_neg e39]
  by_cases e42 : k = 42
  · rw [if_pos e42]
  rw [if_neg e42]
  by_cases e43 : k = 43
  · rw [if_pos e43]
  rw [if_neg e43]
  by_cases e45 : k = 45
  · rw [if_pos e45]
    exact getD_hi (Nat.le_trans (by decide) h)
  rw [if_neg e45]
  by_cases e47 : k = 47
  · rw [if_pos e47]
    exact getD_hi (Nat.le_trans (by decide) h)
  rw [if_neg e47]
  by_cases e49 : k = 49
  · rw [if_pos e49]
    exact getD_hi (Nat.le_trans (by decide) h)
  rw [if_neg e49]
  by_cases e51 : k = 51
  · rw [if_pos e51]
    exact getD_hi (Nat.le_trans (by decide) h)
  rw [if_neg e51]
  by_cases e53 : k < 53
  · rw [if_pos e53]
  rw [if_neg e53, if_neg (show ¬ k < 53 + 4 * q0.1 from e53)]
theorem x_pre2 : iX125 = mkX q0 iX125.2.2.1 := by
  refine Prod.ext (show iX125.1 = 53 by decide +kernel) (Prod.ext (funext fun k => ?_) (Prod.ext rfl (funext fun k => funext fun j => ?_)))
  · show iX125.2.1 k = shX q0 k
    by_cases h : k < 53
    · exact x_sh k h
    · rw [siX125.1 k (by omega)]
      unfold shX
      rw [if_neg h, if_neg (show ¬ k < 53 + 4 * q0.1 from h)]
  · show iX125.2.2.2 k j = rvX q0 k j
    by_cases h : k < 53
    · by_cases h2 : j < 15
      · exact x_rv k h j h2
      · rw [siX125.2 k j (Or.inr (by omega)), rvX_j (by omega)]
    · rw [siX125.2 k j (Or.inl (by omega)), rvX_hi (by omega), if_neg (show ¬ k < 53 + 4 * q0.1 from h)]
