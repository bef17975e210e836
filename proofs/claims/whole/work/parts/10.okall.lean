/-! ===== every entry of every program is checked ===== -/
set_option maxRecDepth 100000 in
theorem ok0 : okP 0 P0 = true := by decide +kernel
set_option maxRecDepth 100000 in
theorem ok1 : okP 1 P1 = true := by decide +kernel
set_option maxRecDepth 100000 in
theorem ok2 : okP 2 P2 = true := by decide +kernel
set_option maxRecDepth 100000 in
theorem ok3 : okP 3 P3 = true := by decide +kernel
set_option maxRecDepth 100000 in
theorem ok4 : okP 4 P4 = true := by decide +kernel
set_option maxRecDepth 100000 in
theorem ok5 : okP 5 P5 = true := by decide +kernel
set_option maxRecDepth 100000 in
theorem ok6 : okP 6 P6 = true := by decide +kernel
set_option maxRecDepth 100000 in
theorem ok7 : okP 7 P7 = true := by decide +kernel
set_option maxRecDepth 100000 in
theorem ok8 : okP 8 P8 = true := by decide +kernel
set_option maxRecDepth 100000 in
theorem ok9 : okP 9 P9 = true := by decide +kernel
set_option maxRecDepth 100000 in
theorem ok10 : okP 10 P10 = true := by decide +kernel
set_option maxRecDepth 100000 in
theorem ok11 : okP 11 P11 = true := by decide +kernel
set_option maxRecDepth 100000 in
theorem ok12 : okP 12 P12 = true := by decide +kernel
set_option maxRecDepth 100000 in
theorem ok13 : okP 13 P13 = true := by decide +kernel
set_option maxRecDepth 100000 in
theorem ok14 : okP 14 P14 = true := by decide +kernel
set_option maxRecDepth 100000 in
theorem ok15 : okP 15 P15 = true := by decide +kernel
set_option maxRecDepth 100000 in
theorem ok16 : okP 16 P16 = true := by decide +kernel
set_option maxRecDepth 100000 in
theorem ok17 : okP 17 P17 = true := by decide +kernel
set_option maxRecDepth 100000 in
theorem ok18 : okP 18 P18 = true := by decide +kernel
set_option maxRecDepth 100000 in
theorem ok19 : okP 19 P19 = true := by decide +kernel
set_option maxRecDepth 100000 in
theorem ok20 : okP 20 P20 = true := by decide +kernel
set_option maxRecDepth 100000 in
theorem ok21 : okP 21 P21 = true := by decide +kernel
set_option maxRecDepth 100000 in
theorem ok22 : okP 22 P22 = true := by decide +kernel
set_option maxRecDepth 100000 in
theorem ok23 : okP 23 P23 = true := by decide +kernel
set_option maxRecDepth 100000 in
theorem ok24 : okP 24 P24 = true := by decide +kernel
set_option maxRecDepth 100000 in
theorem ok25 : okP 25 P25 = true := by decide +kernel
set_option maxRecDepth 100000 in
theorem ok26 : okP 26 P26 = true := by decide +kernel
set_option maxRecDepth 100000 in
theorem ok27 : okP 27 P27 = true := by decide +kernel
set_option maxRecDepth 100000 in
theorem ok28 : okP 28 P28 = true := by decide +kernel
set_option maxRecDepth 100000 in
theorem ok29 : okP 29 P29 = true := by decide +kernel
set_option maxRecDepth 100000 in
theorem ok30 : okP 30 P30 = true := by decide +kernel
set_option maxRecDepth 100000 in
theorem ok31 : okP 31 P31 = true := by decide +kernel
set_option maxRecDepth 100000 in
theorem ok32 : okP 32 P32 = true := by decide +kernel
set_option maxRecDepth 100000 in
theorem ok33 : okP 33 P33 = true := by decide +kernel
set_option maxRecDepth 100000 in
theorem ok34 : okP 34 P34 = true := by decide +kernel
set_option maxRecDepth 100000 in
theorem ok35 : okP 35 P35 = true := by decide +kernel
set_option maxRecDepth 100000 in
theorem ok36 : okP 36 P36 = true := by decide +kernel
set_option maxRecDepth 100000 in
theorem ok37 : okP 37 P37 = true := by decide +kernel
set_option maxRecDepth 100000 in
theorem ok38 : okP 38 P38 = true := by decide +kernel
set_option maxRecDepth 100000 in
theorem ok39 : okP 39 P39 = true := by decide +kernel
set_option maxRecDepth 100000 in
theorem ok40 : okP 40 P40 = true := by decide +kernel
set_option maxRecDepth 100000 in
theorem ok41 : okP 41 P41 = true := by decide +kernel
set_option maxRecDepth 100000 in
theorem ok42 : okP 42 P42 = true := by decide +kernel
set_option maxRecDepth 100000 in
theorem ok43 : okP 43 P43 = true := by decide +kernel
set_option maxRecDepth 100000 in
theorem ok44 : okP 44 P44 = true := by decide +kernel
set_option maxRecDepth 100000 in
theorem ok45 : okP 45 P45 = true := by decide +kernel
set_option maxRecDepth 100000 in
theorem ok46 : okP 46 P46 = true := by decide +kernel
set_option maxRecDepth 100000 in
theorem ok47 : okP 47 P47 = true := by decide +kernel
set_option maxRecDepth 100000 in
theorem ok48 : okP 48 P48 = true := by decide +kernel
set_option maxRecDepth 100000 in
theorem ok49 : okP 49 P49 = true := by decide +kernel
set_option maxRecDepth 100000 in
theorem ok50 : okP 50 P50 = true := by decide +kernel
set_option maxRecDepth 100000 in
theorem ok51 : okP 51 P51 = true := by decide +kernel
set_option maxRecDepth 100000 in
theorem ok52 : okP 52 P52 = true := by decide +kernel
set_option maxRecDepth 100000 in
theorem ok53 : okP 53 P53 = true := by decide +kernel
set_option maxRecDepth 100000 in
theorem ok54 : okP 54 P54 = true := by decide +kernel
set_option maxRecDepth 100000 in
theorem ok55 : okP 55 P55 = true := by decide +kernel
set_option maxRecDepth 100000 in
theorem ok56 : okP 56 P56 = true := by decide +kernel
set_option maxRecDepth 100000 in
theorem ok57 : okP 57 P57 = true := by decide +kernel
set_option maxRecDepth 100000 in
theorem ok58 : okP 58 P58 = true := by decide +kernel
set_option maxRecDepth 100000 in
theorem ok59 : okP 59 P59 = true := by decide +kernel
set_option maxRecDepth 100000 in
theorem ok60 : okP 60 P60 = true := by decide +kernel
set_option maxRecDepth 100000 in
theorem ok61 : okP 61 P61 = true := by decide +kernel
set_option maxRecDepth 100000 in
theorem ok62 : okP 62 P62 = true := by decide +kernel
set_option maxRecDepth 100000 in
theorem ok63 : okP 63 P63 = true := by decide +kernel
set_option maxRecDepth 100000 in
theorem ok64 : okP 64 P64 = true := by decide +kernel
set_option maxRecDepth 100000 in
theorem ok65 : okP 65 P65 = true := by decide +kernel
set_option maxRecDepth 100000 in
theorem ok66 : okP 66 P66 = true := by decide +kernel
set_option maxRecDepth 100000 in
theorem ok67 : okP 67 P67 = true := by decide +kernel
set_option maxRecDepth 100000 in
theorem ok68 : okP 68 P68 = true := by decide +kernel
set_option maxRecDepth 100000 in
theorem ok69 : okP 69 P69 = true := by decide +kernel
set_option maxRecDepth 100000 in
theorem ok70 : okP 70 P70 = true := by decide +kernel
set_option maxRecDepth 100000 in
theorem ok71 : okP 71 P71 = true := by decide +kernel
set_option maxRecDepth 100000 in
theorem ok72 : okP 72 P72 = true := by decide +kernel
set_option maxRecDepth 100000 in
theorem ok73 : okP 73 P73 = true := by decide +kernel
set_option maxRecDepth 100000 in
theorem ok74 : okP 74 P74 = true := by decide +kernel
set_option maxRecDepth 100000 in
theorem ok75 : okP 75 P75 = true := by decide +kernel
set_option maxRecDepth 100000 in
theorem ok76 : okP 76 P76 = true := by decide +kernel
set_option maxRecDepth 100000 in
theorem ok77 : okP 77 P77 = true := by decide +kernel
set_option maxRecDepth 100000 in
theorem ok78 : okP 78 P78 = true := by decide +kernel
set_option maxRecDepth 100000 in
theorem ok79 : okP 79 P79 = true := by decide +kernel
set_option maxRecDepth 100000 in
theorem ok80 : okP 80 P80 = true := by decide +kernel
set_option maxRecDepth 100000 in
theorem ok81 : okP 81 P81 = true := by decide +kernel
set_option maxRecDepth 100000 in
theorem ok82 : okP 82 P82 = true := by decide +kernel
set_option maxRecDepth 100000 in
theorem ok83 : okP 83 P83 = true := by decide +kernel
set_option maxRecDepth 100000 in
theorem ok84 : okP 84 P84 = true := by decide +kernel
set_option maxRecDepth 100000 in
theorem ok85 : okP 85 P85 = true := by decide +kernel
set_option maxRecDepth 100000 in
theorem ok86 : okP 86 P86 = true := by decide +kernel
set_option maxRecDepth 100000 in
theorem ok87 : okP 87 P87 = true := by decide +kernel
set_option maxRecDepth 100000 in
theorem ok88 : okP 88 P88 = true := by decide +kernel
set_option maxRecDepth 100000 in
theorem ok89 : okP 89 P89 = true := by decide +kernel
set_option maxRecDepth 100000 in
theorem ok90 : okP 90 P90 = true := by decide +kernel
set_option maxRecDepth 100000 in
theorem ok91 : okP 91 P91 = true := by decide +kernel
set_option maxRecDepth 100000 in
theorem ok92 : okP 92 P92 = true := by decide +kernel
set_option maxRecDepth 100000 in
theorem ok93 : okP 93 P93 = true := by decide +kernel
set_option maxRecDepth 100000 in
theorem ok94 : okP 94 P94 = true := by decide +kernel
set_option maxRecDepth 100000 in
theorem ok95 : okP 95 P95 = true := by decide +kernel
set_option maxRecDepth 100000 in
theorem ok96 : okP 96 P96 = true := by decide +kernel
set_option maxRecDepth 100000 in
theorem ok97 : okP 97 P97 = true := by decide +kernel
set_option maxRecDepth 100000 in
theorem ok98 : okP 98 P98 = true := by decide +kernel
set_option maxRecDepth 100000 in
theorem ok99 : okP 99 P99 = true := by decide +kernel
set_option maxRecDepth 100000 in
theorem ok100 : okP 100 P100 = true := by decide +kernel
set_option maxRecDepth 100000 in
theorem ok101 : okP 101 P101 = true := by decide +kernel
set_option maxRecDepth 100000 in
theorem ok102 : okP 102 P102 = true := by decide +kernel
set_option maxRecDepth 100000 in
theorem ok103 : okP 103 P103 = true := by decide +kernel
set_option maxRecDepth 100000 in
theorem ok104 : okP 104 P104 = true := by decide +kernel
set_option maxRecDepth 100000 in
theorem ok105 : okP 105 P105 = true := by decide +kernel
set_option maxRecDepth 100000 in
theorem ok106 : okP 106 P106 = true := by decide +kernel
set_option maxRecDepth 100000 in
theorem ok107 : okP 107 P107 = true := by decide +kernel
set_option maxRecDepth 100000 in
theorem ok108 : okP 108 P108 = true := by decide +kernel
set_option maxRecDepth 100000 in
theorem ok109 : okP 109 P109 = true := by decide +kernel
set_option maxRecDepth 100000 in
theorem ok110 : okP 110 P110 = true := by decide +kernel
set_option maxRecDepth 100000 in
theorem ok111 : okP 111 P111 = true := by decide +kernel
set_option maxRecDepth 100000 in
theorem ok112 : okP 112 P112 = true := by decide +kernel
set_option maxRecDepth 100000 in
theorem ok113 : okP 113 P113 = true := by decide +kernel
set_option maxRecDepth 100000 in
theorem ok114 : okP 114 P114 = true := by decide +kernel
set_option maxRecDepth 100000 in
theorem ok115 : okP 115 P115 = true := by decide +kernel
set_option maxRecDepth 100000 in
theorem ok116 : okP 116 P116 = true := by decide +kernel
set_option maxRecDepth 100000 in
theorem ok117 : okP 117 P117 = true := by decide +kernel
set_option maxRecDepth 100000 in
theorem ok118 : okP 118 P118 = true := by decide +kernel
set_option maxRecDepth 100000 in
theorem ok119 : okP 119 P119 = true := by decide +kernel
set_option maxRecDepth 100000 in
theorem ok120 : okP 120 P120 = true := by decide +kernel
set_option maxRecDepth 100000 in
theorem ok121 : okP 121 P121 = true := by decide +kernel
set_option maxRecDepth 100000 in
theorem ok122 : okP 122 P122 = true := by decide +kernel
set_option maxRecDepth 100000 in
theorem ok123 : okP 123 P123 = true := by decide +kernel
set_option maxRecDepth 100000 in
theorem ok124 : okP 124 P124 = true := by decide +kernel
set_option maxRecDepth 100000 in
theorem ok125 : okP 125 P125 = true := by decide +kernel
set_option maxRecDepth 100000 in
theorem ok126 : okP 126 P126 = true := by decide +kernel
set_option maxRecDepth 100000 in
theorem ok127 : okP 127 P127 = true := by decide +kernel
set_option maxRecDepth 100000 in
theorem ok128 : okP 128 P128 = true := by decide +kernel
set_option maxRecDepth 100000 in
theorem ok129 : okP 129 P129 = true := by decide +kernel
set_option maxRecDepth 100000 in
theorem ok130 : okP 130 P130 = true := by decide +kernel
set_option maxRecDepth 100000 in
theorem ok131 : okP 131 P131 = true := by decide +kernel
set_option maxRecDepth 100000 in
theorem ok132 : okP 132 P132 = true := by decide +kernel
set_option maxRecDepth 100000 in
theorem ok133 : okP 133 P133 = true := by decide +kernel
set_option maxRecDepth 100000 in
theorem ok134 : okP 134 P134 = true := by decide +kernel
set_option maxRecDepth 100000 in
theorem ok135 : okP 135 P135 = true := by decide +kernel
set_option maxRecDepth 100000 in
theorem ok136 : okP 136 P136 = true := by decide +kernel
set_option maxRecDepth 100000 in
theorem ok137 : okP 137 P137 = true := by decide +kernel
set_option maxRecDepth 100000 in
theorem ok138 : okP 138 P138 = true := by decide +kernel
set_option maxRecDepth 100000 in
theorem ok139 : okP 139 P139 = true := by decide +kernel
set_option maxRecDepth 100000 in
theorem ok140 : okP 140 P140 = true := by decide +kernel
set_option maxRecDepth 100000 in
theorem ok141 : okP 141 P141 = true := by decide +kernel
set_option maxRecDepth 100000 in
theorem ok142 : okP 142 P142 = true := by decide +kernel
set_option maxRecDepth 100000 in
theorem ok143 : okP 143 P143 = true := by decide +kernel
set_option maxRecDepth 100000 in
theorem ok144 : okP 144 P144 = true := by decide +kernel
set_option maxRecDepth 100000 in
theorem ok145 : okP 145 P145 = true := by decide +kernel
set_option maxRecDepth 100000 in
theorem ok146 : okP 146 P146 = true := by decide +kernel
set_option maxRecDepth 100000 in
theorem ok147 : okP 147 P147 = true := by decide +kernel
set_option maxRecDepth 100000 in
theorem ok148 : okP 148 P148 = true := by decide +kernel
set_option maxRecDepth 100000 in
theorem ok149 : okP 149 P149 = true := by decide +kernel
set_option maxRecDepth 100000 in
theorem ok150 : okP 150 P150 = true := by decide +kernel
