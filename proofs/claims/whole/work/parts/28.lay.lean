/-! ===== by program (wip/whole/gen_lay.py): where the objects lie, once both constructors are through ===== -/
/-! x 4, m 152, out 193; spare walk 21, walks [123, 128, 133, 138]; spare law 27, laws [143, 146, 149]; kept [99, 107, 115]; the planner's states [52, 60, 68, 76, 84] -/
def KT (o : Nat) : Nat := (bif Nat.ble o 96 then (bif Nat.ble o 47 then (bif Nat.ble o 23 then (bif Nat.ble o 11 then (bif Nat.ble o 5 then (bif Nat.ble o 2 then (bif Nat.ble o 0 then 0 else 40) else (bif Nat.ble o 3 then 40 else (bif Nat.ble o 4 then 10 else 1))) else (bif Nat.ble o 8 then (bif Nat.ble o 6 then 20 else (bif Nat.ble o 7 then 20 else 6)) else (bif Nat.ble o 9 then 5 else 20))) else (bif Nat.ble o 17 then (bif Nat.ble o 14 then (bif Nat.ble o 12 then 5 else 20) else (bif Nat.ble o 15 then 20 else (bif Nat.ble o 16 then 25 else 7))) else (bif Nat.ble o 20 then (bif Nat.ble o 18 then 23 else (bif Nat.ble o 19 then 26 else 20)) else (bif Nat.ble o 21 then 9 else 20)))) else (bif Nat.ble o 35 then (bif Nat.ble o 29 then (bif Nat.ble o 26 then (bif Nat.ble o 24 then 20 else (bif Nat.ble o 25 then 20 else 27)) else (bif Nat.ble o 27 then 3 else 20)) else (bif Nat.ble o 32 then (bif Nat.ble o 30 then 8 else (bif Nat.ble o 31 then 1 else 20)) else (bif Nat.ble o 33 then 20 else (bif Nat.ble o 34 then 6 else 5)))) else (bif Nat.ble o 41 then (bif Nat.ble o 38 then (bif Nat.ble o 36 then 20 else (bif Nat.ble o 37 then 20 else 5)) else 20) else (bif Nat.ble o 44 then 20 else (bif Nat.ble o 45 then 4 else (bif Nat.ble o 46 then 1 else 20)))))) else (bif Nat.ble o 71 then (bif Nat.ble o 59 then (bif Nat.ble o 53 then (bif Nat.ble o 50 then (bif Nat.ble o 48 then 20 else (bif Nat.ble o 49 then 25 else 20)) else (bif Nat.ble o 51 then 20 else (bif Nat.ble o 52 then 6 else 5))) else (bif Nat.ble o 56 then (bif Nat.ble o 54 then 20 else (bif Nat.ble o 55 then 20 else 5)) else 20)) else (bif Nat.ble o 65 then (bif Nat.ble o 62 then (bif Nat.ble o 60 then 6 else (bif Nat.ble o 61 then 5 else 20)) else (bif Nat.ble o 63 then 20 else (bif Nat.ble o 64 then 5 else 20))) else (bif Nat.ble o 68 then (bif Nat.ble o 66 then 20 else (bif Nat.ble o 67 then 20 else 6)) else (bif Nat.ble o 69 then 5 else 20)))) else (bif Nat.ble o 83 then (bif Nat.ble o 77 then (bif Nat.ble o 74 then (bif Nat.ble o 72 then 5 else 20) else (bif Nat.ble o 75 then 20 else (bif Nat.ble o 76 then 6 else 5))) else (bif Nat.ble o 80 then (bif Nat.ble o 78 then 20 else (bif Nat.ble o 79 then 20 else 5)) else 20)) else (bif Nat.ble o 89 then (bif Nat.ble o 86 then (bif Nat.ble o 84 then 6 else (bif Nat.ble o 85 then 5 else 20)) else (bif Nat.ble o 87 then 20 else (bif Nat.ble o 88 then 5 else 20))) else (bif Nat.ble o 92 then 20 else (bif Nat.ble o 94 then (bif Nat.ble o 93 then 2 else 20) else 20)))))) else (bif Nat.ble o 145 then (bif Nat.ble o 120 then (bif Nat.ble o 108 then (bif Nat.ble o 102 then (bif Nat.ble o 99 then (bif Nat.ble o 97 then 20 else (bif Nat.ble o 98 then 21 else 6)) else (bif Nat.ble o 100 then 5 else 20)) else (bif Nat.ble o 105 then (bif Nat.ble o 103 then 5 else 20) else (bif Nat.ble o 106 then 20 else (bif Nat.ble o 107 then 6 else 5)))) else (bif Nat.ble o 114 then (bif Nat.ble o 111 then (bif Nat.ble o 109 then 20 else (bif Nat.ble o 110 then 20 else 5)) else 20) else (bif Nat.ble o 117 then (bif Nat.ble o 115 then 6 else (bif Nat.ble o 116 then 5 else 20)) else (bif Nat.ble o 118 then 20 else (bif Nat.ble o 119 then 5 else 20))))) else (bif Nat.ble o 132 then (bif Nat.ble o 126 then (bif Nat.ble o 123 then (bif Nat.ble o 121 then 20 else (bif Nat.ble o 122 then 20 else 9)) else 20) else (bif Nat.ble o 129 then (bif Nat.ble o 127 then 20 else (bif Nat.ble o 128 then 9 else 20)) else 20)) else (bif Nat.ble o 138 then (bif Nat.ble o 135 then (bif Nat.ble o 133 then 9 else 20) else (bif Nat.ble o 136 then 20 else (bif Nat.ble o 137 then 20 else 9))) else (bif Nat.ble o 141 then 20 else (bif Nat.ble o 143 then (bif Nat.ble o 142 then 20 else 3) else 20))))) else (bif Nat.ble o 169 then (bif Nat.ble o 157 then (bif Nat.ble o 151 then (bif Nat.ble o 148 then (bif Nat.ble o 146 then 3 else 20) else (bif Nat.ble o 149 then 3 else 20)) else (bif Nat.ble o 154 then (bif Nat.ble o 152 then 11 else 20) else 20)) else (bif Nat.ble o 163 then (bif Nat.ble o 160 then (bif Nat.ble o 158 then 20 else (bif Nat.ble o 159 then 22 else 21)) else 20) else 20)) else (bif Nat.ble o 181 then (bif Nat.ble o 175 then (bif Nat.ble o 172 then (bif Nat.ble o 170 then 20 else (bif Nat.ble o 171 then 28 else 22)) else (bif Nat.ble o 173 then 22 else (bif Nat.ble o 174 then 22 else 20))) else 20) else (bif Nat.ble o 187 then 20 else (bif Nat.ble o 190 then 20 else (bif Nat.ble o 192 then (bif Nat.ble o 191 then 24 else 20) else (bif Nat.ble o 193 then 21 else 0))))))))
def NT (n1 : Nat) (o : Nat) : Nat := (bif Nat.ble o 96 then (bif Nat.ble o 47 then (bif Nat.ble o 23 then (bif Nat.ble o 11 then (bif Nat.ble o 5 then (bif Nat.ble o 2 then (bif Nat.ble o 0 then 0 else (bif Nat.ble o 1 then n1 else 7)) else (bif Nat.ble o 3 then 7 else 0)) else (bif Nat.ble o 8 then (bif Nat.ble o 6 then 7 else (bif Nat.ble o 7 then 20 else 0)) else (bif Nat.ble o 9 then 0 else 20))) else (bif Nat.ble o 17 then (bif Nat.ble o 14 then (bif Nat.ble o 12 then 0 else 20) else (bif Nat.ble o 15 then 21 else (bif Nat.ble o 16 then 3 else 0))) else (bif Nat.ble o 20 then (bif Nat.ble o 18 then 80 else 4) else (bif Nat.ble o 21 then 0 else 1000)))) else (bif Nat.ble o 35 then (bif Nat.ble o 29 then (bif Nat.ble o 26 then (bif Nat.ble o 24 then 1000 else (bif Nat.ble o 25 then 1000 else 3)) else (bif Nat.ble o 27 then 0 else 40)) else (bif Nat.ble o 32 then (bif Nat.ble o 30 then 0 else (bif Nat.ble o 31 then 0 else 7)) else (bif Nat.ble o 33 then 20 else 0))) else (bif Nat.ble o 41 then (bif Nat.ble o 38 then (bif Nat.ble o 36 then 20 else (bif Nat.ble o 37 then 20 else 0)) else (bif Nat.ble o 39 then 20 else (bif Nat.ble o 40 then 20 else 21))) else (bif Nat.ble o 44 then (bif Nat.ble o 42 then 1040 else (bif Nat.ble o 43 then 1000 else 401)) else (bif Nat.ble o 45 then 0 else (bif Nat.ble o 46 then 0 else 7)))))) else (bif Nat.ble o 71 then (bif Nat.ble o 59 then (bif Nat.ble o 53 then (bif Nat.ble o 50 then (bif Nat.ble o 48 then 20 else (bif Nat.ble o 49 then 5 else 4)) else (bif Nat.ble o 51 then 4 else 0)) else (bif Nat.ble o 56 then (bif Nat.ble o 54 then 20 else (bif Nat.ble o 55 then 20 else 0)) else (bif Nat.ble o 57 then 20 else (bif Nat.ble o 58 then 20 else 21)))) else (bif Nat.ble o 65 then (bif Nat.ble o 62 then (bif Nat.ble o 60 then 0 else (bif Nat.ble o 61 then 0 else 20)) else (bif Nat.ble o 63 then 20 else (bif Nat.ble o 64 then 0 else 20))) else (bif Nat.ble o 68 then (bif Nat.ble o 66 then 20 else (bif Nat.ble o 67 then 21 else 0)) else (bif Nat.ble o 69 then 0 else 20)))) else (bif Nat.ble o 83 then (bif Nat.ble o 77 then (bif Nat.ble o 74 then (bif Nat.ble o 72 then 0 else 20) else (bif Nat.ble o 75 then 21 else 0)) else (bif Nat.ble o 80 then (bif Nat.ble o 78 then 20 else (bif Nat.ble o 79 then 20 else 0)) else (bif Nat.ble o 81 then 20 else (bif Nat.ble o 82 then 20 else 21)))) else (bif Nat.ble o 89 then (bif Nat.ble o 86 then (bif Nat.ble o 84 then 0 else (bif Nat.ble o 85 then 0 else 20)) else (bif Nat.ble o 87 then 20 else (bif Nat.ble o 88 then 0 else 20))) else (bif Nat.ble o 92 then (bif Nat.ble o 90 then 20 else (bif Nat.ble o 91 then 21 else 12)) else (bif Nat.ble o 94 then (bif Nat.ble o 93 then 0 else 20) else 20)))))) else (bif Nat.ble o 145 then (bif Nat.ble o 120 then (bif Nat.ble o 108 then (bif Nat.ble o 102 then (bif Nat.ble o 99 then (bif Nat.ble o 97 then 20 else (bif Nat.ble o 98 then 4 else 0)) else (bif Nat.ble o 100 then 0 else 20)) else (bif Nat.ble o 105 then (bif Nat.ble o 103 then 0 else 20) else (bif Nat.ble o 106 then 21 else 0))) else (bif Nat.ble o 114 then (bif Nat.ble o 111 then (bif Nat.ble o 109 then 20 else (bif Nat.ble o 110 then 20 else 0)) else (bif Nat.ble o 112 then 20 else (bif Nat.ble o 113 then 20 else 21))) else (bif Nat.ble o 117 then (bif Nat.ble o 115 then 0 else (bif Nat.ble o 116 then 0 else 20)) else (bif Nat.ble o 118 then 20 else (bif Nat.ble o 119 then 0 else 20))))) else (bif Nat.ble o 132 then (bif Nat.ble o 126 then (bif Nat.ble o 123 then (bif Nat.ble o 121 then 20 else (bif Nat.ble o 122 then 21 else 0)) else 1000) else (bif Nat.ble o 129 then (bif Nat.ble o 127 then 1000 else (bif Nat.ble o 128 then 0 else 1000)) else 1000)) else (bif Nat.ble o 138 then (bif Nat.ble o 135 then (bif Nat.ble o 133 then 0 else 1000) else (bif Nat.ble o 136 then 1000 else (bif Nat.ble o 137 then 1000 else 0))) else (bif Nat.ble o 141 then 1000 else (bif Nat.ble o 143 then (bif Nat.ble o 142 then 1000 else 0) else 40))))) else (bif Nat.ble o 169 then (bif Nat.ble o 157 then (bif Nat.ble o 151 then (bif Nat.ble o 148 then (bif Nat.ble o 146 then 0 else 40) else (bif Nat.ble o 149 then 0 else 40)) else (bif Nat.ble o 154 then (bif Nat.ble o 152 then 0 else (bif Nat.ble o 153 then 7 else 20)) else (bif Nat.ble o 155 then 40 else (bif Nat.ble o 156 then 40 else 2)))) else (bif Nat.ble o 163 then (bif Nat.ble o 160 then (bif Nat.ble o 158 then 21 else (bif Nat.ble o 159 then 80 else 8)) else (bif Nat.ble o 161 then 4 else (bif Nat.ble o 162 then 4 else 4000))) else (bif Nat.ble o 166 then 4000 else 1000))) else (bif Nat.ble o 181 then (bif Nat.ble o 175 then (bif Nat.ble o 172 then (bif Nat.ble o 170 then 1000 else (bif Nat.ble o 171 then 3 else 40)) else (bif Nat.ble o 173 then 40 else (bif Nat.ble o 174 then 40 else 3))) else (bif Nat.ble o 178 then (bif Nat.ble o 176 then 1050 else (bif Nat.ble o 177 then 420 else 402)) else (bif Nat.ble o 179 then 1000 else 4))) else (bif Nat.ble o 187 then (bif Nat.ble o 184 then (bif Nat.ble o 182 then 4 else (bif Nat.ble o 183 then 420 else 105)) else (bif Nat.ble o 185 then 20 else (bif Nat.ble o 186 then 12 else 20))) else (bif Nat.ble o 190 then 20 else (bif Nat.ble o 192 then 3 else (bif Nat.ble o 193 then 1 else 0))))))))
/-- what never changes -/
def RC (o : Nat) (j : Int) : Nat := (bif Nat.ble o 96 then (bif Nat.ble o 47 then (bif Nat.ble o 23 then (bif Nat.ble o 11 then (bif Nat.ble o 5 then (bif Nat.ble o 2 then 0 else (bif Nat.ble o 3 then 0 else (bif Nat.ble o 4 then (if j < 0 then 0 else (bif Nat.ble j.toNat 7 then (bif Nat.ble j.toNat 3 then (bif Nat.ble j.toNat 1 then (bif Nat.ble j.toNat 0 then 5 else 8) else (bif Nat.ble j.toNat 2 then 16 else 0)) else (bif Nat.ble j.toNat 5 then (bif Nat.ble j.toNat 4 then 17 else 19) else (bif Nat.ble j.toNat 6 then 20 else 0))) else (bif Nat.ble j.toNat 11 then (bif Nat.ble j.toNat 9 then (bif Nat.ble j.toNat 8 then 26 else 0) else (bif Nat.ble j.toNat 10 then 30 else 45)) else (bif Nat.ble j.toNat 13 then (bif Nat.ble j.toNat 12 then 92 else 0) else (bif Nat.ble j.toNat 14 then 93 else (bif Nat.ble j.toNat 15 then 98 else 0)))))) else (if j < 0 then 0 else (bif Nat.ble j.toNat 2 then 0 else (bif Nat.ble j.toNat 3 then 6 else (bif Nat.ble j.toNat 4 then 7 else 0))))))) else (bif Nat.ble o 8 then (bif Nat.ble o 6 then 0 else (bif Nat.ble o 7 then 0 else (if j < 0 then 0 else (bif Nat.ble j.toNat 2 then (bif Nat.ble j.toNat 0 then 0 else (bif Nat.ble j.toNat 1 then 0 else 9)) else (bif Nat.ble j.toNat 3 then 12 else (bif Nat.ble j.toNat 4 then 15 else 0)))))) else (bif Nat.ble o 9 then (if j < 0 then 0 else (bif Nat.ble j.toNat 0 then 10 else (bif Nat.ble j.toNat 1 then 11 else 0))) else 0))) else (bif Nat.ble o 17 then (bif Nat.ble o 14 then (bif Nat.ble o 12 then (if j < 0 then 0 else (bif Nat.ble j.toNat 0 then 13 else (bif Nat.ble j.toNat 1 then 14 else 0))) else 0) else (bif Nat.ble o 15 then 0 else (bif Nat.ble o 16 then (if 0 ≤ j ∧ j < 3 then 99 + 8 * j.toNat else 0) else (if j < 0 then 0 else (bif Nat.ble j.toNat 0 then 18 else 0))))) else (bif Nat.ble o 20 then 0 else (bif Nat.ble o 21 then (if j < 0 then 0 else (bif Nat.ble j.toNat 1 then (bif Nat.ble j.toNat 0 then 22 else 23) else (bif Nat.ble j.toNat 2 then 24 else (bif Nat.ble j.toNat 3 then 25 else 0)))) else 0)))) else (bif Nat.ble o 35 then (bif Nat.ble o 29 then (bif Nat.ble o 26 then 0 else (bif Nat.ble o 27 then (if j < 0 then 0 else (bif Nat.ble j.toNat 0 then 28 else (bif Nat.ble j.toNat 1 then 29 else 0))) else 0)) else (bif Nat.ble o 32 then (bif Nat.ble o 30 then (if j < 0 then 0 else (bif Nat.ble j.toNat 5 then (bif Nat.ble j.toNat 2 then (bif Nat.ble j.toNat 0 then 31 else (bif Nat.ble j.toNat 1 then 0 else 34)) else 0) else (bif Nat.ble j.toNat 8 then (bif Nat.ble j.toNat 6 then 0 else (bif Nat.ble j.toNat 7 then 0 else 42)) else (bif Nat.ble j.toNat 10 then (bif Nat.ble j.toNat 9 then 0 else 43) else (bif Nat.ble j.toNat 11 then 44 else 0))))) else (bif Nat.ble o 31 then (if j < 0 then 0 else (bif Nat.ble j.toNat 2 then 0 else (bif Nat.ble j.toNat 3 then 32 else (bif Nat.ble j.toNat 4 then 33 else 0)))) else 0)) else (bif Nat.ble o 33 then 0 else (bif Nat.ble o 34 then (if j < 0 then 0 else (bif Nat.ble j.toNat 2 then (bif Nat.ble j.toNat 0 then 0 else (bif Nat.ble j.toNat 1 then 0 else 35)) else (bif Nat.ble j.toNat 3 then 38 else (bif Nat.ble j.toNat 4 then 41 else 0)))) else (if j < 0 then 0 else (bif Nat.ble j.toNat 0 then 36 else (bif Nat.ble j.toNat 1 then 37 else 0))))))) else (bif Nat.ble o 41 then (bif Nat.ble o 38 then (bif Nat.ble o 36 then 0 else (bif Nat.ble o 37 then 0 else (if j < 0 then 0 else (bif Nat.ble j.toNat 0 then 39 else (bif Nat.ble j.toNat 1 then 40 else 0))))) else 0) else (bif Nat.ble o 44 then 0 else (bif Nat.ble o 45 then (if j < 0 then 0 else (bif Nat.ble j.toNat 2 then (bif Nat.ble j.toNat 0 then 46 else (bif Nat.ble j.toNat 1 then 0 else 49)) else (bif Nat.ble j.toNat 4 then (bif Nat.ble j.toNat 3 then 50 else 0) else (bif Nat.ble j.toNat 5 then 51 else 0)))) else (bif Nat.ble o 46 then (if j < 0 then 0 else (bif Nat.ble j.toNat 2 then 0 else (bif Nat.ble j.toNat 3 then 47 else (bif Nat.ble j.toNat 4 then 48 else 0)))) else 0)))))) else (bif Nat.ble o 71 then (bif Nat.ble o 59 then (bif Nat.ble o 53 then (bif Nat.ble o 50 then (bif Nat.ble o 48 then 0 else (bif Nat.ble o 49 then (if 0 ≤ j ∧ j < 5 then 52 + 8 * j.toNat else 0) else 0)) else (bif Nat.ble o 51 then 0 else (bif Nat.ble o 52 then (if j < 0 then 0 else (bif Nat.ble j.toNat 2 then (bif Nat.ble j.toNat 0 then 0 else (bif Nat.ble j.toNat 1 then 0 else 53)) else (bif Nat.ble j.toNat 3 then 56 else (bif Nat.ble j.toNat 4 then 59 else 0)))) else (if j < 0 then 0 else (bif Nat.ble j.toNat 0 then 54 else (bif Nat.ble j.toNat 1 then 55 else 0)))))) else (bif Nat.ble o 56 then (bif Nat.ble o 54 then 0 else (bif Nat.ble o 55 then 0 else (if j < 0 then 0 else (bif Nat.ble j.toNat 0 then 57 else (bif Nat.ble j.toNat 1 then 58 else 0))))) else 0)) else (bif Nat.ble o 65 then (bif Nat.ble o 62 then (bif Nat.ble o 60 then (if j < 0 then 0 else (bif Nat.ble j.toNat 2 then (bif Nat.ble j.toNat 0 then 0 else (bif Nat.ble j.toNat 1 then 0 else 61)) else (bif Nat.ble j.toNat 3 then 64 else (bif Nat.ble j.toNat 4 then 67 else 0)))) else (bif Nat.ble o 61 then (if j < 0 then 0 else (bif Nat.ble j.toNat 0 then 62 else (bif Nat.ble j.toNat 1 then 63 else 0))) else 0)) else (bif Nat.ble o 63 then 0 else (bif Nat.ble o 64 then (if j < 0 then 0 else (bif Nat.ble j.toNat 0 then 65 else (bif Nat.ble j.toNat 1 then 66 else 0))) else 0))) else (bif Nat.ble o 68 then (bif Nat.ble o 66 then 0 else (bif Nat.ble o 67 then 0 else (if j < 0 then 0 else (bif Nat.ble j.toNat 2 then (bif Nat.ble j.toNat 0 then 0 else (bif Nat.ble j.toNat 1 then 0 else 69)) else (bif Nat.ble j.toNat 3 then 72 else (bif Nat.ble j.toNat 4 then 75 else 0)))))) else (bif Nat.ble o 69 then (if j < 0 then 0 else (bif Nat.ble j.toNat 0 then 70 else (bif Nat.ble j.toNat 1 then 71 else 0))) else 0)))) else (bif Nat.ble o 83 then (bif Nat.ble o 77 then (bif Nat.ble o 74 then (bif Nat.ble o 72 then (if j < 0 then 0 else (bif Nat.ble j.toNat 0 then 73 else (bif Nat.ble j.toNat 1 then 74 else 0))) else 0) else (bif Nat.ble o 75 then 0 else (bif Nat.ble o 76 then (if j < 0 then 0 else (bif Nat.ble j.toNat 2 then (bif Nat.ble j.toNat 0 then 0 else (bif Nat.ble j.toNat 1 then 0 else 77)) else (bif Nat.ble j.toNat 3 then 80 else (bif Nat.ble j.toNat 4 then 83 else 0)))) else (if j < 0 then 0 else (bif Nat.ble j.toNat 0 then 78 else (bif Nat.ble j.toNat 1 then 79 else 0)))))) else (bif Nat.ble o 80 then (bif Nat.ble o 78 then 0 else (bif Nat.ble o 79 then 0 else (if j < 0 then 0 else (bif Nat.ble j.toNat 0 then 81 else (bif Nat.ble j.toNat 1 then 82 else 0))))) else 0)) else (bif Nat.ble o 89 then (bif Nat.ble o 86 then (bif Nat.ble o 84 then (if j < 0 then 0 else (bif Nat.ble j.toNat 2 then (bif Nat.ble j.toNat 0 then 0 else (bif Nat.ble j.toNat 1 then 0 else 85)) else (bif Nat.ble j.toNat 3 then 88 else (bif Nat.ble j.toNat 4 then 91 else 0)))) else (bif Nat.ble o 85 then (if j < 0 then 0 else (bif Nat.ble j.toNat 0 then 86 else (bif Nat.ble j.toNat 1 then 87 else 0))) else 0)) else (bif Nat.ble o 87 then 0 else (bif Nat.ble o 88 then (if j < 0 then 0 else (bif Nat.ble j.toNat 0 then 89 else (bif Nat.ble j.toNat 1 then 90 else 0))) else 0))) else (bif Nat.ble o 92 then 0 else (bif Nat.ble o 94 then (bif Nat.ble o 93 then (if j < 0 then 0 else (bif Nat.ble j.toNat 1 then (bif Nat.ble j.toNat 0 then 94 else 95) else (bif Nat.ble j.toNat 2 then 96 else (bif Nat.ble j.toNat 3 then 97 else 0)))) else 0) else 0)))))) else (bif Nat.ble o 145 then (bif Nat.ble o 120 then (bif Nat.ble o 108 then (bif Nat.ble o 102 then (bif Nat.ble o 99 then (bif Nat.ble o 97 then 0 else (bif Nat.ble o 98 then 0 else (if j < 0 then 0 else (bif Nat.ble j.toNat 2 then (bif Nat.ble j.toNat 0 then 0 else (bif Nat.ble j.toNat 1 then 0 else 100)) else (bif Nat.ble j.toNat 3 then 103 else (bif Nat.ble j.toNat 4 then 106 else 0)))))) else (bif Nat.ble o 100 then (if j < 0 then 0 else (bif Nat.ble j.toNat 0 then 101 else (bif Nat.ble j.toNat 1 then 102 else 0))) else 0)) else (bif Nat.ble o 105 then (bif Nat.ble o 103 then (if j < 0 then 0 else (bif Nat.ble j.toNat 0 then 104 else (bif Nat.ble j.toNat 1 then 105 else 0))) else 0) else (bif Nat.ble o 106 then 0 else (bif Nat.ble o 107 then (if j < 0 then 0 else (bif Nat.ble j.toNat 2 then (bif Nat.ble j.toNat 0 then 0 else (bif Nat.ble j.toNat 1 then 0 else 108)) else (bif Nat.ble j.toNat 3 then 111 else (bif Nat.ble j.toNat 4 then 114 else 0)))) else (if j < 0 then 0 else (bif Nat.ble j.toNat 0 then 109 else (bif Nat.ble j.toNat 1 then 110 else 0))))))) else (bif Nat.ble o 114 then (bif Nat.ble o 111 then (bif Nat.ble o 109 then 0 else (bif Nat.ble o 110 then 0 else (if j < 0 then 0 else (bif Nat.ble j.toNat 0 then 112 else (bif Nat.ble j.toNat 1 then 113 else 0))))) else 0) else (bif Nat.ble o 117 then (bif Nat.ble o 115 then (if j < 0 then 0 else (bif Nat.ble j.toNat 2 then (bif Nat.ble j.toNat 0 then 0 else (bif Nat.ble j.toNat 1 then 0 else 116)) else (bif Nat.ble j.toNat 3 then 119 else (bif Nat.ble j.toNat 4 then 122 else 0)))) else (bif Nat.ble o 116 then (if j < 0 then 0 else (bif Nat.ble j.toNat 0 then 117 else (bif Nat.ble j.toNat 1 then 118 else 0))) else 0)) else (bif Nat.ble o 118 then 0 else (bif Nat.ble o 119 then (if j < 0 then 0 else (bif Nat.ble j.toNat 0 then 120 else (bif Nat.ble j.toNat 1 then 121 else 0))) else 0))))) else (bif Nat.ble o 132 then (bif Nat.ble o 126 then (bif Nat.ble o 123 then (bif Nat.ble o 121 then 0 else (bif Nat.ble o 122 then 0 else (if j < 0 then 0 else (bif Nat.ble j.toNat 1 then (bif Nat.ble j.toNat 0 then 124 else 125) else (bif Nat.ble j.toNat 2 then 126 else (bif Nat.ble j.toNat 3 then 127 else 0)))))) else 0) else (bif Nat.ble o 129 then (bif Nat.ble o 127 then 0 else (bif Nat.ble o 128 then (if j < 0 then 0 else (bif Nat.ble j.toNat 1 then (bif Nat.ble j.toNat 0 then 129 else 130) else (bif Nat.ble j.toNat 2 then 131 else (bif Nat.ble j.toNat 3 then 132 else 0)))) else 0)) else 0)) else (bif Nat.ble o 138 then (bif Nat.ble o 135 then (bif Nat.ble o 133 then (if j < 0 then 0 else (bif Nat.ble j.toNat 1 then (bif Nat.ble j.toNat 0 then 134 else 135) else (bif Nat.ble j.toNat 2 then 136 else (bif Nat.ble j.toNat 3 then 137 else 0)))) else 0) else (bif Nat.ble o 136 then 0 else (bif Nat.ble o 137 then 0 else (if j < 0 then 0 else (bif Nat.ble j.toNat 1 then (bif Nat.ble j.toNat 0 then 139 else 140) else (bif Nat.ble j.toNat 2 then 141 else (bif Nat.ble j.toNat 3 then 142 else 0))))))) else (bif Nat.ble o 141 then 0 else (bif Nat.ble o 143 then (bif Nat.ble o 142 then 0 else (if j < 0 then 0 else (bif Nat.ble j.toNat 0 then 144 else (bif Nat.ble j.toNat 1 then 145 else 0)))) else 0))))) else (bif Nat.ble o 169 then (bif Nat.ble o 157 then (bif Nat.ble o 151 then (bif Nat.ble o 148 then (bif Nat.ble o 146 then (if j < 0 then 0 else (bif Nat.ble j.toNat 0 then 147 else (bif Nat.ble j.toNat 1 then 148 else 0))) else 0) else (bif Nat.ble o 149 then (if j < 0 then 0 else (bif Nat.ble j.toNat 0 then 150 else (bif Nat.ble j.toNat 1 then 151 else 0))) else 0)) else (bif Nat.ble o 154 then (bif Nat.ble o 152 then (if j < 0 then 0 else (bif Nat.ble j.toNat 32 then (bif Nat.ble j.toNat 15 then (bif Nat.ble j.toNat 7 then (bif Nat.ble j.toNat 3 then (bif Nat.ble j.toNat 1 then 0 else (bif Nat.ble j.toNat 2 then 0 else 153)) else (bif Nat.ble j.toNat 5 then (bif Nat.ble j.toNat 4 then 154 else 0) else (bif Nat.ble j.toNat 6 then 155 else 156))) else (bif Nat.ble j.toNat 11 then (bif Nat.ble j.toNat 9 then (bif Nat.ble j.toNat 8 then 157 else 158) else (bif Nat.ble j.toNat 10 then 0 else 159)) else (bif Nat.ble j.toNat 13 then (bif Nat.ble j.toNat 12 then 0 else 160) else 0))) else (bif Nat.ble j.toNat 23 then (bif Nat.ble j.toNat 19 then 0 else (bif Nat.ble j.toNat 21 then 0 else (bif Nat.ble j.toNat 22 then 161 else 162))) else (bif Nat.ble j.toNat 27 then (bif Nat.ble j.toNat 25 then (bif Nat.ble j.toNat 24 then 163 else 164) else (bif Nat.ble j.toNat 26 then 165 else 166)) else (bif Nat.ble j.toNat 29 then (bif Nat.ble j.toNat 28 then 167 else 168) else (bif Nat.ble j.toNat 30 then 169 else (bif Nat.ble j.toNat 31 then 170 else 0)))))) else (bif Nat.ble j.toNat 49 then (bif Nat.ble j.toNat 40 then (bif Nat.ble j.toNat 36 then (bif Nat.ble j.toNat 34 then (bif Nat.ble j.toNat 33 then 0 else 171) else (bif Nat.ble j.toNat 35 then 175 else 0)) else 0) else (bif Nat.ble j.toNat 44 then (bif Nat.ble j.toNat 42 then 0 else (bif Nat.ble j.toNat 43 then 176 else 0)) else (bif Nat.ble j.toNat 46 then (bif Nat.ble j.toNat 45 then 177 else 0) else (bif Nat.ble j.toNat 47 then 178 else (bif Nat.ble j.toNat 48 then 179 else 180))))) else (bif Nat.ble j.toNat 57 then (bif Nat.ble j.toNat 53 then (bif Nat.ble j.toNat 51 then (bif Nat.ble j.toNat 50 then 181 else 182) else 0) else (bif Nat.ble j.toNat 55 then (bif Nat.ble j.toNat 54 then 183 else 184) else (bif Nat.ble j.toNat 56 then 185 else 0))) else (bif Nat.ble j.toNat 61 then (bif Nat.ble j.toNat 59 then (bif Nat.ble j.toNat 58 then 186 else 0) else (bif Nat.ble j.toNat 60 then 187 else 188)) else (bif Nat.ble j.toNat 63 then (bif Nat.ble j.toNat 62 then 189 else 190) else (bif Nat.ble j.toNat 64 then 191 else (bif Nat.ble j.toNat 65 then 192 else 0)))))))) else 0) else 0)) else 0) else (bif Nat.ble o 181 then (bif Nat.ble o 175 then (bif Nat.ble o 172 then (bif Nat.ble o 170 then 0 else (bif Nat.ble o 171 then (if 0 ≤ j ∧ j < 3 then 172 + j.toNat else 0) else 0)) else 0) else 0) else 0))))
def RF (W : Nat → Nat) (o : Nat) (j : Int) : Nat := if o = 19 ∧ 0 ≤ j ∧ j < 4 then W j.toNat else if o = 26 ∧ 0 ≤ j ∧ j < 3 then W (5 + j.toNat) else if o = 4 ∧ j = 7 then W 4 else if o = 4 ∧ j = 9 then W 8 else if o = 30 ∧ j = 1 then W 9 else if o = 45 ∧ j = 1 then W 11 else if o = 152 ∧ j = 17 then W 12 else RC o j
def uW (W : Nat → Nat) (i b : Nat) : Nat → Nat := fun k => if k = i then b else W k
theorem uW_at {W : Nat → Nat} {i b : Nat} : uW W i b i = b := if_pos rfl
theorem uW_ne {W : Nat → Nat} {i b k : Nat} (h : k ≠ i) : uW W i b k = W k := if_neg h
theorem RF_u19 {W : Nat → Nat} {b : Nat} {j : Int} (h0 : 0 ≤ j) (h1 : j < 4) : (fun o k => if o = 19 ∧ k = j then b else RF W o k) = RF (uW W j.toNat b) := by
  funext o k
  by_cases h2 : o = 19 ∧ 0 ≤ k ∧ k < 4
  · obtain ⟨rfl, g0, g1⟩ := h2
    have eL : ∀ V : Nat → Nat, RF V 19 k = V k.toNat := fun V => if_pos ⟨rfl, g0, g1⟩
    by_cases e : k = j
    · rw [if_pos ⟨rfl, e⟩, eL, e]
      exact uW_at.symm
    · rw [if_neg (fun z => e z.2), eL, eL]
      exact (uW_ne (by omega)).symm
  by_cases h3 : o = 26 ∧ 0 ≤ k ∧ k < 3
  · obtain ⟨rfl, g0, g1⟩ := h3
    have eL : ∀ V : Nat → Nat, RF V 26 k = V (5 + k.toNat) := fun V => (if_neg (fun z => absurd z.1 (by decide))).trans (if_pos ⟨rfl, g0, g1⟩)
    rw [if_neg (by omega), eL, eL]
    exact (uW_ne (by omega)).symm
  by_cases h4 : o = 4 ∧ k = 7
  · obtain ⟨rfl, rfl⟩ := h4
    rw [if_neg (by omega)]
    show W 4 = uW W j.toNat b 4
    exact (uW_ne (by omega)).symm
  by_cases h5 : o = 4 ∧ k = 9
  · obtain ⟨rfl, rfl⟩ := h5
    rw [if_neg (by omega)]
    show W 8 = uW W j.toNat b 8
    exact (uW_ne (by omega)).symm
  by_cases h6 : o = 30 ∧ k = 1
  · obtain ⟨rfl, rfl⟩ := h6
    rw [if_neg (by omega)]
    show W 9 = uW W j.toNat b 9
    exact (uW_ne (by omega)).symm
  by_cases h7 : o = 45 ∧ k = 1
  · obtain ⟨rfl, rfl⟩ := h7
    rw [if_neg (by omega)]
    show W 11 = uW W j.toNat b 11
    exact (uW_ne (by omega)).symm
  by_cases h8 : o = 152 ∧ k = 17
  · obtain ⟨rfl, rfl⟩ := h8
    rw [if_neg (by omega)]
    show W 12 = uW W j.toNat b 12
    exact (uW_ne (by omega)).symm
  rw [if_neg (fun z => h2 ⟨z.1, by omega, by omega⟩)]
  unfold RF
  simp only [if_neg h2, if_neg h3, if_neg h4, if_neg h5, if_neg h6, if_neg h7, if_neg h8]
theorem RF_u26 {W : Nat → Nat} {b : Nat} {j : Int} (h0 : 0 ≤ j) (h1 : j < 3) : (fun o k => if o = 26 ∧ k = j then b else RF W o k) = RF (uW W (5 + j.toNat) b) := by
  funext o k
  by_cases h2 : o = 19 ∧ 0 ≤ k ∧ k < 4
  · obtain ⟨rfl, g0, g1⟩ := h2
    have eL : ∀ V : Nat → Nat, RF V 19 k = V k.toNat := fun V => if_pos ⟨rfl, g0, g1⟩
    rw [if_neg (by omega), eL, eL]
    exact (uW_ne (by omega)).symm
  by_cases h3 : o = 26 ∧ 0 ≤ k ∧ k < 3
  · obtain ⟨rfl, g0, g1⟩ := h3
    have eL : ∀ V : Nat → Nat, RF V 26 k = V (5 + k.toNat) := fun V => (if_neg (fun z => absurd z.1 (by decide))).trans (if_pos ⟨rfl, g0, g1⟩)
    by_cases e : k = j
    · rw [if_pos ⟨rfl, e⟩, eL, e]
      exact uW_at.symm
    · rw [if_neg (fun z => e z.2), eL, eL]
      exact (uW_ne (by omega)).symm
  by_cases h4 : o = 4 ∧ k = 7
  · obtain ⟨rfl, rfl⟩ := h4
    rw [if_neg (by omega)]
    show W 4 = uW W (5 + j.toNat) b 4
    exact (uW_ne (by omega)).symm
  by_cases h5 : o = 4 ∧ k = 9
  · obtain ⟨rfl, rfl⟩ := h5
    rw [if_neg (by omega)]
    show W 8 = uW W (5 + j.toNat) b 8
    exact (uW_ne (by omega)).symm
  by_cases h6 : o = 30 ∧ k = 1
  · obtain ⟨rfl, rfl⟩ := h6
    rw [if_neg (by omega)]
    show W 9 = uW W (5 + j.toNat) b 9
    exact (uW_ne (by omega)).symm
  by_cases h7 : o = 45 ∧ k = 1
  · obtain ⟨rfl, rfl⟩ := h7
    rw [if_neg (by omega)]
    show W 11 = uW W (5 + j.toNat) b 11
    exact (uW_ne (by omega)).symm
  by_cases h8 : o = 152 ∧ k = 17
  · obtain ⟨rfl, rfl⟩ := h8
    rw [if_neg (by omega)]
    show W 12 = uW W (5 + j.toNat) b 12
    exact (uW_ne (by omega)).symm
  rw [if_neg (fun z => h3 ⟨z.1, by omega, by omega⟩)]
  unfold RF
  simp only [if_neg h2, if_neg h3, if_neg h4, if_neg h5, if_neg h6, if_neg h7, if_neg h8]
theorem RF_u4_7 {W : Nat → Nat} {b : Nat} : (fun o k => if o = 4 ∧ k = 7 then b else RF W o k) = RF (uW W 4 b) := by
  funext o k
  by_cases h2 : o = 19 ∧ 0 ≤ k ∧ k < 4
  · obtain ⟨rfl, g0, g1⟩ := h2
    have eL : ∀ V : Nat → Nat, RF V 19 k = V k.toNat := fun V => if_pos ⟨rfl, g0, g1⟩
    rw [if_neg (by omega), eL, eL]
    exact (uW_ne (by omega)).symm
  by_cases h3 : o = 26 ∧ 0 ≤ k ∧ k < 3
  · obtain ⟨rfl, g0, g1⟩ := h3
    have eL : ∀ V : Nat → Nat, RF V 26 k = V (5 + k.toNat) := fun V => (if_neg (fun z => absurd z.1 (by decide))).trans (if_pos ⟨rfl, g0, g1⟩)
    rw [if_neg (by omega), eL, eL]
    exact (uW_ne (by omega)).symm
  by_cases h4 : o = 4 ∧ k = 7
  · obtain ⟨rfl, rfl⟩ := h4
    rfl
  by_cases h5 : o = 4 ∧ k = 9
  · obtain ⟨rfl, rfl⟩ := h5
    rfl
  by_cases h6 : o = 30 ∧ k = 1
  · obtain ⟨rfl, rfl⟩ := h6
    rfl
  by_cases h7 : o = 45 ∧ k = 1
  · obtain ⟨rfl, rfl⟩ := h7
    rfl
  by_cases h8 : o = 152 ∧ k = 17
  · obtain ⟨rfl, rfl⟩ := h8
    rfl
  unfold RF
  simp only [if_neg h2, if_neg h3, if_neg h4, if_neg h5, if_neg h6, if_neg h7, if_neg h8]
theorem RF_u4_9 {W : Nat → Nat} {b : Nat} : (fun o k => if o = 4 ∧ k = 9 then b else RF W o k) = RF (uW W 8 b) := by
  funext o k
  by_cases h2 : o = 19 ∧ 0 ≤ k ∧ k < 4
  · obtain ⟨rfl, g0, g1⟩ := h2
    have eL : ∀ V : Nat → Nat, RF V 19 k = V k.toNat := fun V => if_pos ⟨rfl, g0, g1⟩
    rw [if_neg (by omega), eL, eL]
    exact (uW_ne (by omega)).symm
  by_cases h3 : o = 26 ∧ 0 ≤ k ∧ k < 3
  · obtain ⟨rfl, g0, g1⟩ := h3
    have eL : ∀ V : Nat → Nat, RF V 26 k = V (5 + k.toNat) := fun V => (if_neg (fun z => absurd z.1 (by decide))).trans (if_pos ⟨rfl, g0, g1⟩)
    rw [if_neg (by omega), eL, eL]
    exact (uW_ne (by omega)).symm
  by_cases h4 : o = 4 ∧ k = 7
  · obtain ⟨rfl, rfl⟩ := h4
    rfl
  by_cases h5 : o = 4 ∧ k = 9
  · obtain ⟨rfl, rfl⟩ := h5
    rfl
  by_cases h6 : o = 30 ∧ k = 1
  · obtain ⟨rfl, rfl⟩ := h6
    rfl
  by_cases h7 : o = 45 ∧ k = 1
  · obtain ⟨rfl, rfl⟩ := h7
    rfl
  by_cases h8 : o = 152 ∧ k = 17
  · obtain ⟨rfl, rfl⟩ := h8
    rfl
  unfold RF
  simp only [if_neg h2, if_neg h3, if_neg h4, if_neg h5, if_neg h6, if_neg h7, if_neg h8]
theorem RF_u30_1 {W : Nat → Nat} {b : Nat} : (fun o k => if o = 30 ∧ k = 1 then b else RF W o k) = RF (uW W 9 b) := by
  funext o k
  by_cases h2 : o = 19 ∧ 0 ≤ k ∧ k < 4
  · obtain ⟨rfl, g0, g1⟩ := h2
    have eL : ∀ V : Nat → Nat, RF V 19 k = V k.toNat := fun V => if_pos ⟨rfl, g0, g1⟩
    rw [if_neg (by omega), eL, eL]
    exact (uW_ne (by omega)).symm
  by_cases h3 : o = 26 ∧ 0 ≤ k ∧ k < 3
  · obtain ⟨rfl, g0, g1⟩ := h3
    have eL : ∀ V : Nat → Nat, RF V 26 k = V (5 + k.toNat) := fun V => (if_neg (fun z => absurd z.1 (by decide))).trans (if_pos ⟨rfl, g0, g1⟩)
    rw [if_neg (by omega), eL, eL]
    exact (uW_ne (by omega)).symm
  by_cases h4 : o = 4 ∧ k = 7
  · obtain ⟨rfl, rfl⟩ := h4
    rfl
  by_cases h5 : o = 4 ∧ k = 9
  · obtain ⟨rfl, rfl⟩ := h5
    rfl
  by_cases h6 : o = 30 ∧ k = 1
  · obtain ⟨rfl, rfl⟩ := h6
    rfl
  by_cases h7 : o = 45 ∧ k = 1
  · obtain ⟨rfl, rfl⟩ := h7
    rfl
  by_cases h8 : o = 152 ∧ k = 17
  · obtain ⟨rfl, rfl⟩ := h8
    rfl
  unfold RF
  simp only [if_neg h2, if_neg h3, if_neg h4, if_neg h5, if_neg h6, if_neg h7, if_neg h8]
theorem RF_u45_1 {W : Nat → Nat} {b : Nat} : (fun o k => if o = 45 ∧ k = 1 then b else RF W o k) = RF (uW W 11 b) := by
  funext o k
  by_cases h2 : o = 19 ∧ 0 ≤ k ∧ k < 4
  · obtain ⟨rfl, g0, g1⟩ := h2
    have eL : ∀ V : Nat → Nat, RF V 19 k = V k.toNat := fun V => if_pos ⟨rfl, g0, g1⟩
    rw [if_neg (by omega), eL, eL]
    exact (uW_ne (by omega)).symm
  by_cases h3 : o = 26 ∧ 0 ≤ k ∧ k < 3
  · obtain ⟨rfl, g0, g1⟩ := h3
    have eL : ∀ V : Nat → Nat, RF V 26 k = V (5 + k.toNat) := fun V => (if_neg (fun z => absurd z.1 (by decide))).trans (if_pos ⟨rfl, g0, g1⟩)
    rw [if_neg (by omega), eL, eL]
    exact (uW_ne (by omega)).symm
  by_cases h4 : o = 4 ∧ k = 7
  · obtain ⟨rfl, rfl⟩ := h4
    rfl
  by_cases h5 : o = 4 ∧ k = 9
  · obtain ⟨rfl, rfl⟩ := h5
    rfl
  by_cases h6 : o = 30 ∧ k = 1
  · obtain ⟨rfl, rfl⟩ := h6
    rfl
  by_cases h7 : o = 45 ∧ k = 1
  · obtain ⟨rfl, rfl⟩ := h7
    rfl
  by_cases h8 : o = 152 ∧ k = 17
  · obtain ⟨rfl, rfl⟩ := h8
    rfl
  unfold RF
  simp only [if_neg h2, if_neg h3, if_neg h4, if_neg h5, if_neg h6, if_neg h7, if_neg h8]
theorem RF_u152_17 {W : Nat → Nat} {b : Nat} : (fun o k => if o = 152 ∧ k = 17 then b else RF W o k) = RF (uW W 12 b) := by
  funext o k
  by_cases h2 : o = 19 ∧ 0 ≤ k ∧ k < 4
  · obtain ⟨rfl, g0, g1⟩ := h2
    have eL : ∀ V : Nat → Nat, RF V 19 k = V k.toNat := fun V => if_pos ⟨rfl, g0, g1⟩
    rw [if_neg (by omega), eL, eL]
    exact (uW_ne (by omega)).symm
  by_cases h3 : o = 26 ∧ 0 ≤ k ∧ k < 3
  · obtain ⟨rfl, g0, g1⟩ := h3
    have eL : ∀ V : Nat → Nat, RF V 26 k = V (5 + k.toNat) := fun V => (if_neg (fun z => absurd z.1 (by decide))).trans (if_pos ⟨rfl, g0, g1⟩)
    rw [if_neg (by omega), eL, eL]
    exact (uW_ne (by omega)).symm
  by_cases h4 : o = 4 ∧ k = 7
  · obtain ⟨rfl, rfl⟩ := h4
    rfl
  by_cases h5 : o = 4 ∧ k = 9
  · obtain ⟨rfl, rfl⟩ := h5
    rfl
  by_cases h6 : o = 30 ∧ k = 1
  · obtain ⟨rfl, rfl⟩ := h6
    rfl
  by_cases h7 : o = 45 ∧ k = 1
  · obtain ⟨rfl, rfl⟩ := h7
    rfl
  by_cases h8 : o = 152 ∧ k = 17
  · obtain ⟨rfl, rfl⟩ := h8
    rfl
  unfold RF
  simp only [if_neg h2, if_neg h3, if_neg h4, if_neg h5, if_neg h6, if_neg h7, if_neg h8]
abbrev Rho : Type := (Nat → Int → Nat) × (Nat → Nat) × (Nat → Nat) × Nat
def rho (n1 : Nat) (W : Nat → Nat) : Rho := (RF W, KT, NT n1, 0)
