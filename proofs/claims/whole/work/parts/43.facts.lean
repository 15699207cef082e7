/-! single facts of the layout -/
section PFACT
theorem kd1 : kd_ SH 1 = (0, 8) := rfl
theorem kd2 : kd_ SH 2 = (3, 1600) := rfl
theorem kd3 : kd_ SH 3 = (0, 6) := rfl
theorem kd4 : kd_ SH 4 = (0, 4) := rfl
theorem kd5 : kd_ SH 5 = (2, 23) := rfl
theorem kd6 : kd_ SH 6 = (1, 1601) := rfl
theorem kd7 : kd_ SH 7 = (1, 1601) := rfl
theorem kd8 : kd_ SH 8 = (1, 1601) := rfl
theorem kd9 : kd_ SH 9 = (1, 1601) := rfl
theorem kd10 : kd_ SH 10 = (0, 5) := rfl
theorem kd11 : kd_ SH 11 = (1, 3) := rfl
theorem kd12 : kd_ SH 12 = (1, 36) := rfl
theorem kd13 : kd_ SH 13 = (1, 10) := rfl
theorem kd14 : kd_ SH 14 = (1, 12) := rfl
theorem kd15 : kd_ SH 15 = (1, 12) := rfl
theorem kd16 : kd_ SH 16 = (1, 12) := rfl
theorem kd17 : kd_ SH 17 = (1, 12) := rfl
theorem kd18 : kd_ SH 18 = (1, 10) := rfl
theorem kd19 : kd_ SH 19 = (1, 10) := rfl
theorem kd20 : kd_ SH 20 = (0, 1) := rfl
theorem kd21 : kd_ SH 21 = (1, 1600) := rfl
theorem kd22 : kd_ SH 22 = (1, 64) := rfl
theorem kd23 : kd_ SH 23 = (0, 1) := rfl
theorem kd24 : kd_ SH 24 = (1, 1600) := rfl
theorem kd25 : kd_ SH 25 = (1, 64) := rfl
theorem kd26 : kd_ SH 26 = (0, 2) := rfl
theorem kd27 : kd_ SH 27 = (5, 20) := rfl
theorem kd28 : kd_ SH 28 = (0, 3) := rfl
theorem kd29 : kd_ SH 29 = (1, 12) := rfl
theorem kd30 : kd_ SH 30 = (1, 12) := rfl
theorem kd31 : kd_ SH 31 = (1, 12) := rfl
theorem kd32 : kd_ SH 32 = (1, 120) := rfl
theorem kd33 : kd_ SH 33 = (0, 3) := rfl
theorem kd34 : kd_ SH 34 = (1, 12) := rfl
theorem kd35 : kd_ SH 35 = (1, 12) := rfl
theorem kd36 : kd_ SH 36 = (1, 12) := rfl
theorem kd37 : kd_ SH 37 = (1, 120) := rfl
theorem kd38 : kd_ SH 38 = (0, 3) := rfl
theorem kd39 : kd_ SH 39 = (1, 12) := rfl
theorem kd40 : kd_ SH 40 = (1, 12) := rfl
theorem kd41 : kd_ SH 41 = (1, 12) := rfl
theorem kd42 : kd_ SH 42 = (1, 120) := rfl
theorem kd43 : kd_ SH 43 = (0, 3) := rfl
theorem kd44 : kd_ SH 44 = (1, 12) := rfl
theorem kd45 : kd_ SH 45 = (1, 12) := rfl
theorem kd46 : kd_ SH 46 = (1, 12) := rfl
theorem kd47 : kd_ SH 47 = (1, 120) := rfl
theorem kd48 : kd_ SH 48 = (0, 3) := rfl
theorem kd49 : kd_ SH 49 = (1, 12) := rfl
theorem kd50 : kd_ SH 50 = (1, 12) := rfl
theorem kd51 : kd_ SH 51 = (1, 12) := rfl
theorem kd52 : kd_ SH 52 = (1, 120) := rfl
theorem kd53 : kd_ SH 53 = (0, 3) := rfl
theorem kd54 : kd_ SH 54 = (1, 12) := rfl
theorem kd55 : kd_ SH 55 = (1, 12) := rfl
theorem kd56 : kd_ SH 56 = (1, 12) := rfl
theorem kd57 : kd_ SH 57 = (1, 120) := rfl
theorem kd58 : kd_ SH 58 = (0, 3) := rfl
theorem kd59 : kd_ SH 59 = (1, 12) := rfl
theorem kd60 : kd_ SH 60 = (1, 12) := rfl
theorem kd61 : kd_ SH 61 = (1, 12) := rfl
theorem kd62 : kd_ SH 62 = (1, 120) := rfl
theorem kd63 : kd_ SH 63 = (0, 3) := rfl
theorem kd64 : kd_ SH 64 = (1, 12) := rfl
theorem kd65 : kd_ SH 65 = (1, 12) := rfl
theorem kd66 : kd_ SH 66 = (1, 12) := rfl
theorem kd67 : kd_ SH 67 = (1, 120) := rfl
theorem kd68 : kd_ SH 68 = (0, 3) := rfl
theorem kd69 : kd_ SH 69 = (1, 12) := rfl
theorem kd70 : kd_ SH 70 = (1, 12) := rfl
theorem kd71 : kd_ SH 71 = (1, 12) := rfl
theorem kd72 : kd_ SH 72 = (1, 120) := rfl
theorem kd73 : kd_ SH 73 = (0, 3) := rfl
theorem kd74 : kd_ SH 74 = (1, 12) := rfl
theorem kd75 : kd_ SH 75 = (1, 12) := rfl
theorem kd76 : kd_ SH 76 = (1, 12) := rfl
theorem kd77 : kd_ SH 77 = (1, 120) := rfl
theorem kd78 : kd_ SH 78 = (0, 3) := rfl
theorem kd79 : kd_ SH 79 = (1, 12) := rfl
theorem kd80 : kd_ SH 80 = (1, 12) := rfl
theorem kd81 : kd_ SH 81 = (1, 12) := rfl
theorem kd82 : kd_ SH 82 = (1, 120) := rfl
theorem kd83 : kd_ SH 83 = (0, 3) := rfl
theorem kd84 : kd_ SH 84 = (1, 12) := rfl
theorem kd85 : kd_ SH 85 = (1, 12) := rfl
theorem kd86 : kd_ SH 86 = (1, 12) := rfl
theorem kd87 : kd_ SH 87 = (1, 120) := rfl
theorem kd88 : kd_ SH 88 = (0, 3) := rfl
theorem kd89 : kd_ SH 89 = (1, 12) := rfl
theorem kd90 : kd_ SH 90 = (1, 12) := rfl
theorem kd91 : kd_ SH 91 = (1, 12) := rfl
theorem kd92 : kd_ SH 92 = (1, 120) := rfl
theorem kd93 : kd_ SH 93 = (0, 3) := rfl
theorem kd94 : kd_ SH 94 = (1, 12) := rfl
theorem kd95 : kd_ SH 95 = (1, 12) := rfl
theorem kd96 : kd_ SH 96 = (1, 12) := rfl
theorem kd97 : kd_ SH 97 = (1, 120) := rfl
theorem kd98 : kd_ SH 98 = (0, 3) := rfl
theorem kd99 : kd_ SH 99 = (1, 12) := rfl
theorem kd100 : kd_ SH 100 = (1, 12) := rfl
theorem kd101 : kd_ SH 101 = (1, 12) := rfl
theorem kd102 : kd_ SH 102 = (1, 120) := rfl
theorem kd103 : kd_ SH 103 = (0, 3) := rfl
theorem kd104 : kd_ SH 104 = (1, 12) := rfl
theorem kd105 : kd_ SH 105 = (1, 12) := rfl
theorem kd106 : kd_ SH 106 = (1, 12) := rfl
theorem kd107 : kd_ SH 107 = (1, 120) := rfl
theorem kd108 : kd_ SH 108 = (0, 3) := rfl
theorem kd109 : kd_ SH 109 = (1, 12) := rfl
theorem kd110 : kd_ SH 110 = (1, 12) := rfl
theorem kd111 : kd_ SH 111 = (1, 12) := rfl
theorem kd112 : kd_ SH 112 = (1, 120) := rfl
theorem kd113 : kd_ SH 113 = (0, 3) := rfl
theorem kd114 : kd_ SH 114 = (1, 12) := rfl
theorem kd115 : kd_ SH 115 = (1, 12) := rfl
theorem kd116 : kd_ SH 116 = (1, 12) := rfl
theorem kd117 : kd_ SH 117 = (1, 120) := rfl
theorem kd118 : kd_ SH 118 = (0, 3) := rfl
theorem kd119 : kd_ SH 119 = (1, 12) := rfl
theorem kd120 : kd_ SH 120 = (1, 12) := rfl
theorem kd121 : kd_ SH 121 = (1, 12) := rfl
theorem kd122 : kd_ SH 122 = (1, 120) := rfl
theorem kd123 : kd_ SH 123 = (0, 3) := rfl
theorem kd124 : kd_ SH 124 = (1, 12) := rfl
theorem kd125 : kd_ SH 125 = (1, 12) := rfl
theorem kd126 : kd_ SH 126 = (1, 12) := rfl
theorem kd127 : kd_ SH 127 = (1, 120) := rfl
theorem kd128 : kd_ SH 128 = (0, 7) := rfl
theorem kd129 : kd_ SH 129 = (1, 10240) := rfl
theorem kd130 : kd_ SH 130 = (1, 10240) := rfl
theorem kd131 : kd_ SH 131 = (1, 1000) := rfl
theorem kd132 : kd_ SH 132 = (1, 10) := rfl
theorem kd133 : kd_ SH 133 = (1, 20) := rfl
theorem kd134 : kd_ SH 134 = (1, 6) := rfl
theorem kd135 : kd_ SH 135 = (1, 20) := rfl
theorem kd136 : kd_ SH 136 = (3, 135) := rfl
theorem kd137 : kd_ SH 137 = (0, 5) := rfl
theorem kd138 : kd_ SH 138 = (1, 3) := rfl
theorem kd139 : kd_ SH 139 = (1, 36) := rfl
theorem kd140 : kd_ SH 140 = (1, 10) := rfl
theorem kd141 : kd_ SH 141 = (1, 12) := rfl
theorem kd142 : kd_ SH 142 = (1, 12) := rfl
theorem kd143 : kd_ SH 143 = (1, 12) := rfl
theorem kd144 : kd_ SH 144 = (1, 12) := rfl
theorem kd145 : kd_ SH 145 = (1, 10) := rfl
theorem kd146 : kd_ SH 146 = (1, 10) := rfl
theorem kd147 : kd_ SH 147 = (0, 1) := rfl
theorem kd148 : kd_ SH 148 = (1, 1600) := rfl
theorem kd149 : kd_ SH 149 = (1, 64) := rfl
theorem kd150 : kd_ SH 150 = (0, 1) := rfl
theorem kd151 : kd_ SH 151 = (1, 1600) := rfl
theorem kd152 : kd_ SH 152 = (1, 64) := rfl
theorem kd153 : kd_ SH 153 = (0, 0) := rfl
theorem kd154 : kd_ SH 154 = (0, 3) := rfl
theorem kd155 : kd_ SH 155 = (1, 12) := rfl
theorem kd156 : kd_ SH 156 = (1, 12) := rfl
theorem kd157 : kd_ SH 157 = (1, 12) := rfl
theorem kd158 : kd_ SH 158 = (1, 120) := rfl
theorem kd159 : kd_ SH 159 = (1, 6) := rfl
theorem kd160 : kd_ SH 160 = (0, 0) := rfl
theorem kd161 : kd_ SH 161 = (0, 3) := rfl
theorem kd162 : kd_ SH 162 = (1, 12) := rfl
theorem kd163 : kd_ SH 163 = (1, 12) := rfl
theorem kd164 : kd_ SH 164 = (1, 12) := rfl
theorem kd165 : kd_ SH 165 = (1, 120) := rfl
theorem kd166 : kd_ SH 166 = (1, 6) := rfl
theorem kd167 : kd_ SH 167 = (0, 9) := rfl
theorem kd168 : kd_ SH 168 = (1, 1800) := rfl
theorem kd169 : kd_ SH 169 = (1, 2) := rfl
theorem kd170 : kd_ SH 170 = (1, 20) := rfl
theorem kd171 : kd_ SH 171 = (1, 2) := rfl
theorem kd172 : kd_ SH 172 = (1, 24) := rfl
theorem kd173 : kd_ SH 173 = (1, 24) := rfl
theorem kd174 : kd_ SH 174 = (1, 24) := rfl
theorem kd175 : kd_ SH 175 = (1, 24) := rfl
theorem kd176 : kd_ SH 176 = (1, 2) := rfl
theorem kd177 : kd_ SH 177 = (1, 20) := rfl
theorem kd178 : kd_ SH 178 = (1, 20) := rfl
theorem kd179 : kd_ SH 179 = (1, 2) := rfl
theorem kd180 : kd_ SH 180 = (1, 2) := rfl
theorem kd181 : kd_ SH 181 = (1, 2) := rfl
theorem kd182 : kd_ SH 182 = (1, 2) := rfl
theorem kd183 : kd_ SH 183 = (1, 2) := rfl
theorem kd184 : kd_ SH 184 = (1, 2) := rfl
theorem kd185 : kd_ SH 185 = (1, 3200) := rfl
theorem kd186 : kd_ SH 186 = (1, 3200) := rfl
theorem kd187 : kd_ SH 187 = (2, 20) := rfl
theorem kd188 : kd_ SH 188 = (2, 24) := rfl
theorem kd189 : kd_ SH 189 = (2, 20) := rfl
theorem kd190 : kd_ SH 190 = (1, 20) := rfl
theorem kd191 : kd_ SH 191 = (1, 20) := rfl
theorem kd192 : kd_ SH 192 = (4, 20) := rfl
theorem kd193 : kd_ SH 193 = (1, 20) := rfl
theorem kd194 : kd_ SH 194 = (1, 20) := rfl
theorem kd195 : kd_ SH 195 = (1, 500) := rfl
theorem kd196 : kd_ SH 196 = (1, 6) := rfl
theorem kd197 : kd_ SH 197 = (1, 22) := rfl
theorem kd198 : kd_ SH 198 = (1, 264) := rfl
theorem kd199 : kd_ SH 199 = (1, 264) := rfl
theorem kd200 : kd_ SH 200 = (1, 264) := rfl
theorem kd201 : kd_ SH 201 = (1, 2640) := rfl
theorem kd202 : kd_ SH 202 = (2, 500) := rfl
theorem kd203 : kd_ SH 203 = (1, 10240) := rfl
theorem kd204 : kd_ SH 204 = (1, 10240) := rfl
theorem kd205 : kd_ SH 205 = (1, 10240) := rfl
theorem kd206 : kd_ SH 206 = (1, 20) := rfl
theorem kd207 : kd_ SH 207 = (1, 150) := rfl
theorem ly1_0 {M : AwM} (h : LAY M) : M 1 0 = 2 := h (1, 0, 2) (List.mem_of_getElem? (i := 0) rfl)
theorem ly1_2 {M : AwM} (h : LAY M) : M 1 2 = 3 := h (1, 2, 3) (List.mem_of_getElem? (i := 1) rfl)
theorem ly1_4 {M : AwM} (h : LAY M) : M 1 4 = 153 := h (1, 4, 153) (List.mem_of_getElem? (i := 2) rfl)
theorem ly1_5 {M : AwM} (h : LAY M) : M 1 5 = 160 := h (1, 5, 160) (List.mem_of_getElem? (i := 3) rfl)
theorem ly1_6 {M : AwM} (h : LAY M) : M 1 6 = 26 := h (1, 6, 26) (List.mem_of_getElem? (i := 4) rfl)
theorem ly1_7 {M : AwM} (h : LAY M) : M 1 7 = 128 := h (1, 7, 128) (List.mem_of_getElem? (i := 5) rfl)
theorem ly1_8 {M : AwM} (h : LAY M) : M 1 8 = 134 := h (1, 8, 134) (List.mem_of_getElem? (i := 6) rfl)
theorem ly1_9 {M : AwM} (h : LAY M) : M 1 9 = 135 := h (1, 9, 135) (List.mem_of_getElem? (i := 7) rfl)
theorem ly1_11 {M : AwM} (h : LAY M) : M 1 11 = 136 := h (1, 11, 136) (List.mem_of_getElem? (i := 8) rfl)
theorem ly3_0 {M : AwM} (h : LAY M) : M 3 0 = 4 := h (3, 0, 4) (List.mem_of_getElem? (i := 9) rfl)
theorem ly4_0 {M : AwM} (h : LAY M) : M 4 0 = 5 := h (4, 0, 5) (List.mem_of_getElem? (i := 10) rfl)
theorem ly4_1 {M : AwM} (h : LAY M) : M 4 1 = 6 := h (4, 1, 6) (List.mem_of_getElem? (i := 11) rfl)
theorem ly4_2 {M : AwM} (h : LAY M) : M 4 2 = 7 := h (4, 2, 7) (List.mem_of_getElem? (i := 12) rfl)
theorem ly4_3 {M : AwM} (h : LAY M) : M 4 3 = 8 := h (4, 3, 8) (List.mem_of_getElem? (i := 13) rfl)
theorem ly4_4 {M : AwM} (h : LAY M) : M 4 4 = 9 := h (4, 4, 9) (List.mem_of_getElem? (i := 14) rfl)
theorem ly10_0 {M : AwM} (h : LAY M) : M 10 0 = 11 := h (10, 0, 11) (List.mem_of_getElem? (i := 15) rfl)
theorem ly10_1 {M : AwM} (h : LAY M) : M 10 1 = 12 := h (10, 1, 12) (List.mem_of_getElem? (i := 16) rfl)
theorem ly10_2 {M : AwM} (h : LAY M) : M 10 2 = 13 := h (10, 2, 13) (List.mem_of_getElem? (i := 17) rfl)
theorem ly10_3 {M : AwM} (h : LAY M) : M 10 3 = 14 := h (10, 3, 14) (List.mem_of_getElem? (i := 18) rfl)
theorem ly10_4 {M : AwM} (h : LAY M) : M 10 4 = 15 := h (10, 4, 15) (List.mem_of_getElem? (i := 19) rfl)
theorem ly10_5 {M : AwM} (h : LAY M) : M 10 5 = 16 := h (10, 5, 16) (List.mem_of_getElem? (i := 20) rfl)
theorem ly10_6 {M : AwM} (h : LAY M) : M 10 6 = 17 := h (10, 6, 17) (List.mem_of_getElem? (i := 21) rfl)
theorem ly10_7 {M : AwM} (h : LAY M) : M 10 7 = 18 := h (10, 7, 18) (List.mem_of_getElem? (i := 22) rfl)
theorem ly10_8 {M : AwM} (h : LAY M) : M 10 8 = 19 := h (10, 8, 19) (List.mem_of_getElem? (i := 23) rfl)
theorem ly10_9 {M : AwM} (h : LAY M) : M 10 9 = 20 := h (10, 9, 20) (List.mem_of_getElem? (i := 24) rfl)
theorem ly10_10 {M : AwM} (h : LAY M) : M 10 10 = 23 := h (10, 10, 23) (List.mem_of_getElem? (i := 25) rfl)
theorem ly20_0 {M : AwM} (h : LAY M) : M 20 0 = 21 := h (20, 0, 21) (List.mem_of_getElem? (i := 26) rfl)
theorem ly20_2 {M : AwM} (h : LAY M) : M 20 2 = 22 := h (20, 2, 22) (List.mem_of_getElem? (i := 27) rfl)
theorem ly23_0 {M : AwM} (h : LAY M) : M 23 0 = 24 := h (23, 0, 24) (List.mem_of_getElem? (i := 28) rfl)
theorem ly23_2 {M : AwM} (h : LAY M) : M 23 2 = 25 := h (23, 2, 25) (List.mem_of_getElem? (i := 29) rfl)
theorem ly26_0 {M : AwM} (h : LAY M) : M 26 0 = 27 := h (26, 0, 27) (List.mem_of_getElem? (i := 30) rfl)
theorem ly27_0 {M : AwM} (h : LAY M) : M 27 0 = 28 := h (27, 0, 28) (List.mem_of_getElem? (i := 31) rfl)
theorem ly27_1 {M : AwM} (h : LAY M) : M 27 1 = 33 := h (27, 1, 33) (List.mem_of_getElem? (i := 32) rfl)
theorem ly27_2 {M : AwM} (h : LAY M) : M 27 2 = 38 := h (27, 2, 38) (List.mem_of_getElem? (i := 33) rfl)
theorem ly27_3 {M : AwM} (h : LAY M) : M 27 3 = 43 := h (27, 3, 43) (List.mem_of_getElem? (i := 34) rfl)
theorem ly27_4 {M : AwM} (h : LAY M) : M 27 4 = 48 := h (27, 4, 48) (List.mem_of_getElem? (i := 35) rfl)
theorem ly27_5 {M : AwM} (h : LAY M) : M 27 5 = 53 := h (27, 5, 53) (List.mem_of_getElem? (i := 36) rfl)
theorem ly27_6 {M : AwM} (h : LAY M) : M 27 6 = 58 := h (27, 6, 58) (List.mem_of_getElem? (i := 37) rfl)
theorem ly27_7 {M : AwM} (h : LAY M) : M 27 7 = 63 := h (27, 7, 63) (List.mem_of_getElem? (i := 38) rfl)
theorem ly27_8 {M : AwM} (h : LAY M) : M 27 8 = 68 := h (27, 8, 68) (List.mem_of_getElem? (i := 39) rfl)
theorem ly27_9 {M : AwM} (h : LAY M) : M 27 9 = 73 := h (27, 9, 73) (List.mem_of_getElem? (i := 40) rfl)
theorem ly27_10 {M : AwM} (h : LAY M) : M 27 10 = 78 := h (27, 10, 78) (List.mem_of_getElem? (i := 41) rfl)
theorem ly27_11 {M : AwM} (h : LAY M) : M 27 11 = 83 := h (27, 11, 83) (List.mem_of_getElem? (i := 42) rfl)
theorem ly27_12 {M : AwM} (h : LAY M) : M 27 12 = 88 := h (27, 12, 88) (List.mem_of_getElem? (i := 43) rfl)
theorem ly27_13 {M : AwM} (h : LAY M) : M 27 13 = 93 := h (27, 13, 93) (List.mem_of_getElem? (i := 44) rfl)
theorem ly27_14 {M : AwM} (h : LAY M) : M 27 14 = 98 := h (27, 14, 98) (List.mem_of_getElem? (i := 45) rfl)
theorem ly27_15 {M : AwM} (h : LAY M) : M 27 15 = 103 := h (27, 15, 103) (List.mem_of_getElem? (i := 46) rfl)
theorem ly27_16 {M : AwM} (h : LAY M) : M 27 16 = 108 := h (27, 16, 108) (List.mem_of_getElem? (i := 47) rfl)
theorem ly27_17 {M : AwM} (h : LAY M) : M 27 17 = 113 := h (27, 17, 113) (List.mem_of_getElem? (i := 48) rfl)
theorem ly27_18 {M : AwM} (h : LAY M) : M 27 18 = 118 := h (27, 18, 118) (List.mem_of_getElem? (i := 49) rfl)
theorem ly27_19 {M : AwM} (h : LAY M) : M 27 19 = 123 := h (27, 19, 123) (List.mem_of_getElem? (i := 50) rfl)
theorem ly28_1 {M : AwM} (h : LAY M) : M 28 1 = 29 := h (28, 1, 29) (List.mem_of_getElem? (i := 51) rfl)
theorem ly28_2 {M : AwM} (h : LAY M) : M 28 2 = 30 := h (28, 2, 30) (List.mem_of_getElem? (i := 52) rfl)
theorem ly28_3 {M : AwM} (h : LAY M) : M 28 3 = 31 := h (28, 3, 31) (List.mem_of_getElem? (i := 53) rfl)
theorem ly28_4 {M : AwM} (h : LAY M) : M 28 4 = 32 := h (28, 4, 32) (List.mem_of_getElem? (i := 54) rfl)
theorem ly33_1 {M : AwM} (h : LAY M) : M 33 1 = 34 := h (33, 1, 34) (List.mem_of_getElem? (i := 55) rfl)
theorem ly33_2 {M : AwM} (h : LAY M) : M 33 2 = 35 := h (33, 2, 35) (List.mem_of_getElem? (i := 56) rfl)
theorem ly33_3 {M : AwM} (h : LAY M) : M 33 3 = 36 := h (33, 3, 36) (List.mem_of_getElem? (i := 57) rfl)
theorem ly33_4 {M : AwM} (h : LAY M) : M 33 4 = 37 := h (33, 4, 37) (List.mem_of_getElem? (i := 58) rfl)
theorem ly38_1 {M : AwM} (h : LAY M) : M 38 1 = 39 := h (38, 1, 39) (List.mem_of_getElem? (i := 59) rfl)
theorem ly38_2 {M : AwM} (h : LAY M) : M 38 2 = 40 := h (38, 2, 40) (List.mem_of_getElem? (i := 60) rfl)
theorem ly38_3 {M : AwM} (h : LAY M) : M 38 3 = 41 := h (38, 3, 41) (List.mem_of_getElem? (i := 61) rfl)
theorem ly38_4 {M : AwM} (h : LAY M) : M 38 4 = 42 := h (38, 4, 42) (List.mem_of_getElem? (i := 62) rfl)
theorem ly43_1 {M : AwM} (h : LAY M) : M 43 1 = 44 := h (43, 1, 44) (List.mem_of_getElem? (i := 63) rfl)
theorem ly43_2 {M : AwM} (h : LAY M) : M 43 2 = 45 := h (43, 2, 45) (List.mem_of_getElem? (i := 64) rfl)
theorem ly43_3 {M : AwM} (h : LAY M) : M 43 3 = 46 := h (43, 3, 46) (List.mem_of_getElem? (i := 65) rfl)
theorem ly43_4 {M : AwM} (h : LAY M) : M 43 4 = 47 := h (43, 4, 47) (List.mem_of_getElem? (i := 66) rfl)
theorem ly48_1 {M : AwM} (h : LAY M) : M 48 1 = 49 := h (48, 1, 49) (List.mem_of_getElem? (i := 67) rfl)
theorem ly48_2 {M : AwM} (h : LAY M) : M 48 2 = 50 := h (48, 2, 50) (List.mem_of_getElem? (i := 68) rfl)
theorem ly48_3 {M : AwM} (h : LAY M) : M 48 3 = 51 := h (48, 3, 51) (List.mem_of_getElem? (i := 69) rfl)
theorem ly48_4 {M : AwM} (h : LAY M) : M 48 4 = 52 := h (48, 4, 52) (List.mem_of_getElem? (i := 70) rfl)
theorem ly53_1 {M : AwM} (h : LAY M) : M 53 1 = 54 := h (53, 1, 54) (List.mem_of_getElem? (i := 71) rfl)
theorem ly53_2 {M : AwM} (h : LAY M) : M 53 2 = 55 := h (53, 2, 55) (List.mem_of_getElem? (i := 72) rfl)
theorem ly53_3 {M : AwM} (h : LAY M) : M 53 3 = 56 := h (53, 3, 56) (List.mem_of_getElem? (i := 73) rfl)
theorem ly53_4 {M : AwM} (h : LAY M) : M 53 4 = 57 := h (53, 4, 57) (List.mem_of_getElem? (i := 74) rfl)
theorem ly58_1 {M : AwM} (h : LAY M) : M 58 1 = 59 := h (58, 1, 59) (List.mem_of_getElem? (i := 75) rfl)
theorem ly58_2 {M : AwM} (h : LAY M) : M 58 2 = 60 := h (58, 2, 60) (List.mem_of_getElem? (i := 76) rfl)
theorem ly58_3 {M : AwM} (h : LAY M) : M 58 3 = 61 := h (58, 3, 61) (List.mem_of_getElem? (i := 77) rfl)
theorem ly58_4 {M : AwM} (h : LAY M) : M 58 4 = 62 := h (58, 4, 62) (List.mem_of_getElem? (i := 78) rfl)
theorem ly63_1 {M : AwM} (h : LAY M) : M 63 1 = 64 := h (63, 1, 64) (List.mem_of_getElem? (i := 79) rfl)
theorem ly63_2 {M : AwM} (h : LAY M) : M 63 2 = 65 := h (63, 2, 65) (List.mem_of_getElem? (i := 80) rfl)
theorem ly63_3 {M : AwM} (h : LAY M) : M 63 3 = 66 := h (63, 3, 66) (List.mem_of_getElem? (i := 81) rfl)
theorem ly63_4 {M : AwM} (h : LAY M) : M 63 4 = 67 := h (63, 4, 67) (List.mem_of_getElem? (i := 82) rfl)
theorem ly68_1 {M : AwM} (h : LAY M) : M 68 1 = 69 := h (68, 1, 69) (List.mem_of_getElem? (i := 83) rfl)
theorem ly68_2 {M : AwM} (h : LAY M) : M 68 2 = 70 := h (68, 2, 70) (List.mem_of_getElem? (i := 84) rfl)
theorem ly68_3 {M : AwM} (h : LAY M) : M 68 3 = 71 := h (68, 3, 71) (List.mem_of_getElem? (i := 85) rfl)
theorem ly68_4 {M : AwM} (h : LAY M) : M 68 4 = 72 := h (68, 4, 72) (List.mem_of_getElem? (i := 86) rfl)
theorem ly73_1 {M : AwM} (h : LAY M) : M 73 1 = 74 := h (73, 1, 74) (List.mem_of_getElem? (i := 87) rfl)
theorem ly73_2 {M : AwM} (h : LAY M) : M 73 2 = 75 := h (73, 2, 75) (List.mem_of_getElem? (i := 88) rfl)
theorem ly73_3 {M : AwM} (h : LAY M) : M 73 3 = 76 := h (73, 3, 76) (List.mem_of_getElem? (i := 89) rfl)
theorem ly73_4 {M : AwM} (h : LAY M) : M 73 4 = 77 := h (73, 4, 77) (List.mem_of_getElem? (i := 90) rfl)
theorem ly78_1 {M : AwM} (h : LAY M) : M 78 1 = 79 := h (78, 1, 79) (List.mem_of_getElem? (i := 91) rfl)
theorem ly78_2 {M : AwM} (h : LAY M) : M 78 2 = 80 := h (78, 2, 80) (List.mem_of_getElem? (i := 92) rfl)
theorem ly78_3 {M : AwM} (h : LAY M) : M 78 3 = 81 := h (78, 3, 81) (List.mem_of_getElem? (i := 93) rfl)
theorem ly78_4 {M : AwM} (h : LAY M) : M 78 4 = 82 := h (78, 4, 82) (List.mem_of_getElem? (i := 94) rfl)
theorem ly83_1 {M : AwM} (h : LAY M) : M 83 1 = 84 := h (83, 1, 84) (List.mem_of_getElem? (i := 95) rfl)
theorem ly83_2 {M : AwM} (h : LAY M) : M 83 2 = 85 := h (83, 2, 85) (List.mem_of_getElem? (i := 96) rfl)
theorem ly83_3 {M : AwM} (h : LAY M) : M 83 3 = 86 := h (83, 3, 86) (List.mem_of_getElem? (i := 97) rfl)
theorem ly83_4 {M : AwM} (h : LAY M) : M 83 4 = 87 := h (83, 4, 87) (List.mem_of_getElem? (i := 98) rfl)
theorem ly88_1 {M : AwM} (h : LAY M) : M 88 1 = 89 := h (88, 1, 89) (List.mem_of_getElem? (i := 99) rfl)
theorem ly88_2 {M : AwM} (h : LAY M) : M 88 2 = 90 := h (88, 2, 90) (List.mem_of_getElem? (i := 100) rfl)
theorem ly88_3 {M : AwM} (h : LAY M) : M 88 3 = 91 := h (88, 3, 91) (List.mem_of_getElem? (i := 101) rfl)
theorem ly88_4 {M : AwM} (h : LAY M) : M 88 4 = 92 := h (88, 4, 92) (List.mem_of_getElem? (i := 102) rfl)
theorem ly93_1 {M : AwM} (h : LAY M) : M 93 1 = 94 := h (93, 1, 94) (List.mem_of_getElem? (i := 103) rfl)
theorem ly93_2 {M : AwM} (h : LAY M) : M 93 2 = 95 := h (93, 2, 95) (List.mem_of_getElem? (i := 104) rfl)
theorem ly93_3 {M : AwM} (h : LAY M) : M 93 3 = 96 := h (93, 3, 96) (List.mem_of_getElem? (i := 105) rfl)
theorem ly93_4 {M : AwM} (h : LAY M) : M 93 4 = 97 := h (93, 4, 97) (List.mem_of_getElem? (i := 106) rfl)
theorem ly98_1 {M : AwM} (h : LAY M) : M 98 1 = 99 := h (98, 1, 99) (List.mem_of_getElem? (i := 107) rfl)
theorem ly98_2 {M : AwM} (h : LAY M) : M 98 2 = 100 := h (98, 2, 100) (List.mem_of_getElem? (i := 108) rfl)
theorem ly98_3 {M : AwM} (h : LAY M) : M 98 3 = 101 := h (98, 3, 101) (List.mem_of_getElem? (i := 109) rfl)
theorem ly98_4 {M : AwM} (h : LAY M) : M 98 4 = 102 := h (98, 4, 102) (List.mem_of_getElem? (i := 110) rfl)
theorem ly103_1 {M : AwM} (h : LAY M) : M 103 1 = 104 := h (103, 1, 104) (List.mem_of_getElem? (i := 111) rfl)
theorem ly103_2 {M : AwM} (h : LAY M) : M 103 2 = 105 := h (103, 2, 105) (List.mem_of_getElem? (i := 112) rfl)
theorem ly103_3 {M : AwM} (h : LAY M) : M 103 3 = 106 := h (103, 3, 106) (List.mem_of_getElem? (i := 113) rfl)
theorem ly103_4 {M : AwM} (h : LAY M) : M 103 4 = 107 := h (103, 4, 107) (List.mem_of_getElem? (i := 114) rfl)
theorem ly108_1 {M : AwM} (h : LAY M) : M 108 1 = 109 := h (108, 1, 109) (List.mem_of_getElem? (i := 115) rfl)
theorem ly108_2 {M : AwM} (h : LAY M) : M 108 2 = 110 := h (108, 2, 110) (List.mem_of_getElem? (i := 116) rfl)
theorem ly108_3 {M : AwM} (h : LAY M) : M 108 3 = 111 := h (108, 3, 111) (List.mem_of_getElem? (i := 117) rfl)
theorem ly108_4 {M : AwM} (h : LAY M) : M 108 4 = 112 := h (108, 4, 112) (List.mem_of_getElem? (i := 118) rfl)
theorem ly113_1 {M : AwM} (h : LAY M) : M 113 1 = 114 := h (113, 1, 114) (List.mem_of_getElem? (i := 119) rfl)
theorem ly113_2 {M : AwM} (h : LAY M) : M 113 2 = 115 := h (113, 2, 115) (List.mem_of_getElem? (i := 120) rfl)
theorem ly113_3 {M : AwM} (h : LAY M) : M 113 3 = 116 := h (113, 3, 116) (List.mem_of_getElem? (i := 121) rfl)
theorem ly113_4 {M : AwM} (h : LAY M) : M 113 4 = 117 := h (113, 4, 117) (List.mem_of_getElem? (i := 122) rfl)
theorem ly118_1 {M : AwM} (h : LAY M) : M 118 1 = 119 := h (118, 1, 119) (List.mem_of_getElem? (i := 123) rfl)
theorem ly118_2 {M : AwM} (h : LAY M) : M 118 2 = 120 := h (118, 2, 120) (List.mem_of_getElem? (i := 124) rfl)
theorem ly118_3 {M : AwM} (h : LAY M) : M 118 3 = 121 := h (118, 3, 121) (List.mem_of_getElem? (i := 125) rfl)
theorem ly118_4 {M : AwM} (h : LAY M) : M 118 4 = 122 := h (118, 4, 122) (List.mem_of_getElem? (i := 126) rfl)
theorem ly123_1 {M : AwM} (h : LAY M) : M 123 1 = 124 := h (123, 1, 124) (List.mem_of_getElem? (i := 127) rfl)
theorem ly123_2 {M : AwM} (h : LAY M) : M 123 2 = 125 := h (123, 2, 125) (List.mem_of_getElem? (i := 128) rfl)
theorem ly123_3 {M : AwM} (h : LAY M) : M 123 3 = 126 := h (123, 3, 126) (List.mem_of_getElem? (i := 129) rfl)
theorem ly123_4 {M : AwM} (h : LAY M) : M 123 4 = 127 := h (123, 4, 127) (List.mem_of_getElem? (i := 130) rfl)
theorem ly128_0 {M : AwM} (h : LAY M) : M 128 0 = 129 := h (128, 0, 129) (List.mem_of_getElem? (i := 131) rfl)
theorem ly128_1 {M : AwM} (h : LAY M) : M 128 1 = 130 := h (128, 1, 130) (List.mem_of_getElem? (i := 132) rfl)
theorem ly128_3 {M : AwM} (h : LAY M) : M 128 3 = 131 := h (128, 3, 131) (List.mem_of_getElem? (i := 133) rfl)
theorem ly128_4 {M : AwM} (h : LAY M) : M 128 4 = 132 := h (128, 4, 132) (List.mem_of_getElem? (i := 134) rfl)
theorem ly128_6 {M : AwM} (h : LAY M) : M 128 6 = 133 := h (128, 6, 133) (List.mem_of_getElem? (i := 135) rfl)
theorem ly137_0 {M : AwM} (h : LAY M) : M 137 0 = 138 := h (137, 0, 138) (List.mem_of_getElem? (i := 136) rfl)
theorem ly137_1 {M : AwM} (h : LAY M) : M 137 1 = 139 := h (137, 1, 139) (List.mem_of_getElem? (i := 137) rfl)
theorem ly137_2 {M : AwM} (h : LAY M) : M 137 2 = 140 := h (137, 2, 140) (List.mem_of_getElem? (i := 138) rfl)
theorem ly137_3 {M : AwM} (h : LAY M) : M 137 3 = 141 := h (137, 3, 141) (List.mem_of_getElem? (i := 139) rfl)
theorem ly137_4 {M : AwM} (h : LAY M) : M 137 4 = 142 := h (137, 4, 142) (List.mem_of_getElem? (i := 140) rfl)
theorem ly137_5 {M : AwM} (h : LAY M) : M 137 5 = 143 := h (137, 5, 143) (List.mem_of_getElem? (i := 141) rfl)
theorem ly137_6 {M : AwM} (h : LAY M) : M 137 6 = 144 := h (137, 6, 144) (List.mem_of_getElem? (i := 142) rfl)
theorem ly137_7 {M : AwM} (h : LAY M) : M 137 7 = 145 := h (137, 7, 145) (List.mem_of_getElem? (i := 143) rfl)
theorem ly137_8 {M : AwM} (h : LAY M) : M 137 8 = 146 := h (137, 8, 146) (List.mem_of_getElem? (i := 144) rfl)
theorem ly137_9 {M : AwM} (h : LAY M) : M 137 9 = 147 := h (137, 9, 147) (List.mem_of_getElem? (i := 145) rfl)
theorem ly137_10 {M : AwM} (h : LAY M) : M 137 10 = 150 := h (137, 10, 150) (List.mem_of_getElem? (i := 146) rfl)
theorem ly147_0 {M : AwM} (h : LAY M) : M 147 0 = 148 := h (147, 0, 148) (List.mem_of_getElem? (i := 147) rfl)
theorem ly147_2 {M : AwM} (h : LAY M) : M 147 2 = 149 := h (147, 2, 149) (List.mem_of_getElem? (i := 148) rfl)
theorem ly150_0 {M : AwM} (h : LAY M) : M 150 0 = 151 := h (150, 0, 151) (List.mem_of_getElem? (i := 149) rfl)
theorem ly150_2 {M : AwM} (h : LAY M) : M 150 2 = 152 := h (150, 2, 152) (List.mem_of_getElem? (i := 150) rfl)
theorem ly153_0 {M : AwM} (h : LAY M) : M 153 0 = 154 := h (153, 0, 154) (List.mem_of_getElem? (i := 151) rfl)
theorem ly153_2 {M : AwM} (h : LAY M) : M 153 2 = 159 := h (153, 2, 159) (List.mem_of_getElem? (i := 152) rfl)
theorem ly154_1 {M : AwM} (h : LAY M) : M 154 1 = 155 := h (154, 1, 155) (List.mem_of_getElem? (i := 153) rfl)
theorem ly154_2 {M : AwM} (h : LAY M) : M 154 2 = 156 := h (154, 2, 156) (List.mem_of_getElem? (i := 154) rfl)
theorem ly154_3 {M : AwM} (h : LAY M) : M 154 3 = 157 := h (154, 3, 157) (List.mem_of_getElem? (i := 155) rfl)
theorem ly154_4 {M : AwM} (h : LAY M) : M 154 4 = 158 := h (154, 4, 158) (List.mem_of_getElem? (i := 156) rfl)
theorem ly160_0 {M : AwM} (h : LAY M) : M 160 0 = 161 := h (160, 0, 161) (List.mem_of_getElem? (i := 157) rfl)
theorem ly160_2 {M : AwM} (h : LAY M) : M 160 2 = 166 := h (160, 2, 166) (List.mem_of_getElem? (i := 158) rfl)
theorem ly161_1 {M : AwM} (h : LAY M) : M 161 1 = 162 := h (161, 1, 162) (List.mem_of_getElem? (i := 159) rfl)
theorem ly161_2 {M : AwM} (h : LAY M) : M 161 2 = 163 := h (161, 2, 163) (List.mem_of_getElem? (i := 160) rfl)
theorem ly161_3 {M : AwM} (h : LAY M) : M 161 3 = 164 := h (161, 3, 164) (List.mem_of_getElem? (i := 161) rfl)
theorem ly161_4 {M : AwM} (h : LAY M) : M 161 4 = 165 := h (161, 4, 165) (List.mem_of_getElem? (i := 162) rfl)
theorem ly167_0 {M : AwM} (h : LAY M) : M 167 0 = 168 := h (167, 0, 168) (List.mem_of_getElem? (i := 163) rfl)
theorem ly167_14 {M : AwM} (h : LAY M) : M 167 14 = 169 := h (167, 14, 169) (List.mem_of_getElem? (i := 164) rfl)
theorem ly167_15 {M : AwM} (h : LAY M) : M 167 15 = 170 := h (167, 15, 170) (List.mem_of_getElem? (i := 165) rfl)
theorem ly167_16 {M : AwM} (h : LAY M) : M 167 16 = 171 := h (167, 16, 171) (List.mem_of_getElem? (i := 166) rfl)
theorem ly167_17 {M : AwM} (h : LAY M) : M 167 17 = 172 := h (167, 17, 172) (List.mem_of_getElem? (i := 167) rfl)
theorem ly167_18 {M : AwM} (h : LAY M) : M 167 18 = 173 := h (167, 18, 173) (List.mem_of_getElem? (i := 168) rfl)
theorem ly167_19 {M : AwM} (h : LAY M) : M 167 19 = 174 := h (167, 19, 174) (List.mem_of_getElem? (i := 169) rfl)
theorem ly167_20 {M : AwM} (h : LAY M) : M 167 20 = 175 := h (167, 20, 175) (List.mem_of_getElem? (i := 170) rfl)
theorem ly167_21 {M : AwM} (h : LAY M) : M 167 21 = 176 := h (167, 21, 176) (List.mem_of_getElem? (i := 171) rfl)
theorem ly167_22 {M : AwM} (h : LAY M) : M 167 22 = 177 := h (167, 22, 177) (List.mem_of_getElem? (i := 172) rfl)
theorem ly167_23 {M : AwM} (h : LAY M) : M 167 23 = 178 := h (167, 23, 178) (List.mem_of_getElem? (i := 173) rfl)
theorem ly167_24 {M : AwM} (h : LAY M) : M 167 24 = 179 := h (167, 24, 179) (List.mem_of_getElem? (i := 174) rfl)
theorem ly167_25 {M : AwM} (h : LAY M) : M 167 25 = 180 := h (167, 25, 180) (List.mem_of_getElem? (i := 175) rfl)
theorem ly167_26 {M : AwM} (h : LAY M) : M 167 26 = 181 := h (167, 26, 181) (List.mem_of_getElem? (i := 176) rfl)
theorem ly167_27 {M : AwM} (h : LAY M) : M 167 27 = 182 := h (167, 27, 182) (List.mem_of_getElem? (i := 177) rfl)
theorem ly167_28 {M : AwM} (h : LAY M) : M 167 28 = 183 := h (167, 28, 183) (List.mem_of_getElem? (i := 178) rfl)
theorem ly167_29 {M : AwM} (h : LAY M) : M 167 29 = 184 := h (167, 29, 184) (List.mem_of_getElem? (i := 179) rfl)
theorem ly167_30 {M : AwM} (h : LAY M) : M 167 30 = 185 := h (167, 30, 185) (List.mem_of_getElem? (i := 180) rfl)
theorem ly167_31 {M : AwM} (h : LAY M) : M 167 31 = 186 := h (167, 31, 186) (List.mem_of_getElem? (i := 181) rfl)
theorem ly167_32 {M : AwM} (h : LAY M) : M 167 32 = 187 := h (167, 32, 187) (List.mem_of_getElem? (i := 182) rfl)
theorem ly167_33 {M : AwM} (h : LAY M) : M 167 33 = 188 := h (167, 33, 188) (List.mem_of_getElem? (i := 183) rfl)
theorem ly167_34 {M : AwM} (h : LAY M) : M 167 34 = 189 := h (167, 34, 189) (List.mem_of_getElem? (i := 184) rfl)
theorem ly167_37 {M : AwM} (h : LAY M) : M 167 37 = 190 := h (167, 37, 190) (List.mem_of_getElem? (i := 185) rfl)
theorem ly167_38 {M : AwM} (h : LAY M) : M 167 38 = 191 := h (167, 38, 191) (List.mem_of_getElem? (i := 186) rfl)
theorem ly167_39 {M : AwM} (h : LAY M) : M 167 39 = 192 := h (167, 39, 192) (List.mem_of_getElem? (i := 187) rfl)
theorem ly167_40 {M : AwM} (h : LAY M) : M 167 40 = 193 := h (167, 40, 193) (List.mem_of_getElem? (i := 188) rfl)
theorem ly167_41 {M : AwM} (h : LAY M) : M 167 41 = 194 := h (167, 41, 194) (List.mem_of_getElem? (i := 189) rfl)
theorem ly167_44 {M : AwM} (h : LAY M) : M 167 44 = 195 := h (167, 44, 195) (List.mem_of_getElem? (i := 190) rfl)
theorem ly167_47 {M : AwM} (h : LAY M) : M 167 47 = 196 := h (167, 47, 196) (List.mem_of_getElem? (i := 191) rfl)
theorem ly167_48 {M : AwM} (h : LAY M) : M 167 48 = 197 := h (167, 48, 197) (List.mem_of_getElem? (i := 192) rfl)
theorem ly167_49 {M : AwM} (h : LAY M) : M 167 49 = 198 := h (167, 49, 198) (List.mem_of_getElem? (i := 193) rfl)
theorem ly167_50 {M : AwM} (h : LAY M) : M 167 50 = 199 := h (167, 50, 199) (List.mem_of_getElem? (i := 194) rfl)
theorem ly167_51 {M : AwM} (h : LAY M) : M 167 51 = 200 := h (167, 51, 200) (List.mem_of_getElem? (i := 195) rfl)
theorem ly167_52 {M : AwM} (h : LAY M) : M 167 52 = 201 := h (167, 52, 201) (List.mem_of_getElem? (i := 196) rfl)
theorem ly167_56 {M : AwM} (h : LAY M) : M 167 56 = 202 := h (167, 56, 202) (List.mem_of_getElem? (i := 197) rfl)
theorem ly167_63 {M : AwM} (h : LAY M) : M 167 63 = 203 := h (167, 63, 203) (List.mem_of_getElem? (i := 198) rfl)
theorem ly167_64 {M : AwM} (h : LAY M) : M 167 64 = 204 := h (167, 64, 204) (List.mem_of_getElem? (i := 199) rfl)
theorem ly167_65 {M : AwM} (h : LAY M) : M 167 65 = 205 := h (167, 65, 205) (List.mem_of_getElem? (i := 200) rfl)
theorem ly167_68 {M : AwM} (h : LAY M) : M 167 68 = 206 := h (167, 68, 206) (List.mem_of_getElem? (i := 201) rfl)
theorem ly167_69 {M : AwM} (h : LAY M) : M 167 69 = 207 := h (167, 69, 207) (List.mem_of_getElem? (i := 202) rfl)
theorem kso0 {so : Int} (h : so = 10 ∨ so = 137) : kd_ SH (so) = (0, 5) := by rcases h with rfl | rfl <;> rfl
theorem kso1 {so : Int} (h : so = 10 ∨ so = 137) : kd_ SH (so + 1) = (1, 3) := by rcases h with rfl | rfl <;> rfl
theorem kso2 {so : Int} (h : so = 10 ∨ so = 137) : kd_ SH (so + 2) = (1, 36) := by rcases h with rfl | rfl <;> rfl
theorem kso3 {so : Int} (h : so = 10 ∨ so = 137) : kd_ SH (so + 3) = (1, 10) := by rcases h with rfl | rfl <;> rfl
theorem kso4 {so : Int} (h : so = 10 ∨ so = 137) : kd_ SH (so + 4) = (1, 12) := by rcases h with rfl | rfl <;> rfl
theorem kso5 {so : Int} (h : so = 10 ∨ so = 137) : kd_ SH (so + 5) = (1, 12) := by rcases h with rfl | rfl <;> rfl
theorem kso6 {so : Int} (h : so = 10 ∨ so = 137) : kd_ SH (so + 6) = (1, 12) := by rcases h with rfl | rfl <;> rfl
theorem kso7 {so : Int} (h : so = 10 ∨ so = 137) : kd_ SH (so + 7) = (1, 12) := by rcases h with rfl | rfl <;> rfl
theorem kso8 {so : Int} (h : so = 10 ∨ so = 137) : kd_ SH (so + 8) = (1, 10) := by rcases h with rfl | rfl <;> rfl
theorem kso9 {so : Int} (h : so = 10 ∨ so = 137) : kd_ SH (so + 9) = (1, 10) := by rcases h with rfl | rfl <;> rfl
theorem kso10 {so : Int} (h : so = 10 ∨ so = 137) : kd_ SH (so + 10) = (0, 1) := by rcases h with rfl | rfl <;> rfl
theorem kso11 {so : Int} (h : so = 10 ∨ so = 137) : kd_ SH (so + 11) = (1, 1600) := by rcases h with rfl | rfl <;> rfl
theorem kso12 {so : Int} (h : so = 10 ∨ so = 137) : kd_ SH (so + 12) = (1, 64) := by rcases h with rfl | rfl <;> rfl
theorem kso13 {so : Int} (h : so = 10 ∨ so = 137) : kd_ SH (so + 13) = (0, 1) := by rcases h with rfl | rfl <;> rfl
theorem kso14 {so : Int} (h : so = 10 ∨ so = 137) : kd_ SH (so + 14) = (1, 1600) := by rcases h with rfl | rfl <;> rfl
theorem kso15 {so : Int} (h : so = 10 ∨ so = 137) : kd_ SH (so + 15) = (1, 64) := by rcases h with rfl | rfl <;> rfl
theorem lso0_0 {M : AwM} (h : LAY M) {so : Int} (hs : so = 10 ∨ so = 137) : M so 0 = so + 1 := by rcases hs with rfl | rfl; exact ly10_0 h; exact ly137_0 h
theorem lso0_1 {M : AwM} (h : LAY M) {so : Int} (hs : so = 10 ∨ so = 137) : M so 1 = so + 2 := by rcases hs with rfl | rfl; exact ly10_1 h; exact ly137_1 h
theorem lso0_2 {M : AwM} (h : LAY M) {so : Int} (hs : so = 10 ∨ so = 137) : M so 2 = so + 3 := by rcases hs with rfl | rfl; exact ly10_2 h; exact ly137_2 h
theorem lso0_3 {M : AwM} (h : LAY M) {so : Int} (hs : so = 10 ∨ so = 137) : M so 3 = so + 4 := by rcases hs with rfl | rfl; exact ly10_3 h; exact ly137_3 h
theorem lso0_4 {M : AwM} (h : LAY M) {so : Int} (hs : so = 10 ∨ so = 137) : M so 4 = so + 5 := by rcases hs with rfl | rfl; exact ly10_4 h; exact ly137_4 h
theorem lso0_5 {M : AwM} (h : LAY M) {so : Int} (hs : so = 10 ∨ so = 137) : M so 5 = so + 6 := by rcases hs with rfl | rfl; exact ly10_5 h; exact ly137_5 h
theorem lso0_6 {M : AwM} (h : LAY M) {so : Int} (hs : so = 10 ∨ so = 137) : M so 6 = so + 7 := by rcases hs with rfl | rfl; exact ly10_6 h; exact ly137_6 h
theorem lso0_7 {M : AwM} (h : LAY M) {so : Int} (hs : so = 10 ∨ so = 137) : M so 7 = so + 8 := by rcases hs with rfl | rfl; exact ly10_7 h; exact ly137_7 h
theorem lso0_8 {M : AwM} (h : LAY M) {so : Int} (hs : so = 10 ∨ so = 137) : M so 8 = so + 9 := by rcases hs with rfl | rfl; exact ly10_8 h; exact ly137_8 h
theorem lso0_9 {M : AwM} (h : LAY M) {so : Int} (hs : so = 10 ∨ so = 137) : M so 9 = so + 10 := by rcases hs with rfl | rfl; exact ly10_9 h; exact ly137_9 h
theorem lso0_10 {M : AwM} (h : LAY M) {so : Int} (hs : so = 10 ∨ so = 137) : M so 10 = so + 13 := by rcases hs with rfl | rfl; exact ly10_10 h; exact ly137_10 h
theorem lso10_0 {M : AwM} (h : LAY M) {so : Int} (hs : so = 10 ∨ so = 137) : M (so + 10) 0 = so + 11 := by rcases hs with rfl | rfl; exact ly20_0 h; exact ly147_0 h
theorem lso10_2 {M : AwM} (h : LAY M) {so : Int} (hs : so = 10 ∨ so = 137) : M (so + 10) 2 = so + 12 := by rcases hs with rfl | rfl; exact ly20_2 h; exact ly147_2 h
theorem lso13_0 {M : AwM} (h : LAY M) {so : Int} (hs : so = 10 ∨ so = 137) : M (so + 13) 0 = so + 14 := by rcases hs with rfl | rfl; exact ly23_0 h; exact ly150_0 h
theorem lso13_2 {M : AwM} (h : LAY M) {so : Int} (hs : so = 10 ∨ so = 137) : M (so + 13) 2 = so + 15 := by rcases hs with rfl | rfl; exact ly23_2 h; exact ly150_2 h
theorem kcr0 {cr : Int} (h : cr = 153 ∨ cr = 160) : kd_ SH (cr) = (0, 0) := by rcases h with rfl | rfl <;> rfl
theorem kcr1 {cr : Int} (h : cr = 153 ∨ cr = 160) : kd_ SH (cr + 1) = (0, 3) := by rcases h with rfl | rfl <;> rfl
theorem kcr2 {cr : Int} (h : cr = 153 ∨ cr = 160) : kd_ SH (cr + 2) = (1, 12) := by rcases h with rfl | rfl <;> rfl
theorem kcr3 {cr : Int} (h : cr = 153 ∨ cr = 160) : kd_ SH (cr + 3) = (1, 12) := by rcases h with rfl | rfl <;> rfl
theorem kcr4 {cr : Int} (h : cr = 153 ∨ cr = 160) : kd_ SH (cr + 4) = (1, 12) := by rcases h with rfl | rfl <;> rfl
theorem kcr5 {cr : Int} (h : cr = 153 ∨ cr = 160) : kd_ SH (cr + 5) = (1, 120) := by rcases h with rfl | rfl <;> rfl
theorem kcr6 {cr : Int} (h : cr = 153 ∨ cr = 160) : kd_ SH (cr + 6) = (1, 6) := by rcases h with rfl | rfl <;> rfl
theorem lcr0_0 {M : AwM} (h : LAY M) {cr : Int} (hs : cr = 153 ∨ cr = 160) : M cr 0 = cr + 1 := by rcases hs with rfl | rfl; exact ly153_0 h; exact ly160_0 h
theorem lcr0_2 {M : AwM} (h : LAY M) {cr : Int} (hs : cr = 153 ∨ cr = 160) : M cr 2 = cr + 6 := by rcases hs with rfl | rfl; exact ly153_2 h; exact ly160_2 h
theorem lcr1_1 {M : AwM} (h : LAY M) {cr : Int} (hs : cr = 153 ∨ cr = 160) : M (cr + 1) 1 = cr + 2 := by rcases hs with rfl | rfl; exact ly154_1 h; exact ly161_1 h
theorem lcr1_2 {M : AwM} (h : LAY M) {cr : Int} (hs : cr = 153 ∨ cr = 160) : M (cr + 1) 2 = cr + 3 := by rcases hs with rfl | rfl; exact ly154_2 h; exact ly161_2 h
theorem lcr1_3 {M : AwM} (h : LAY M) {cr : Int} (hs : cr = 153 ∨ cr = 160) : M (cr + 1) 3 = cr + 4 := by rcases hs with rfl | rfl; exact ly154_3 h; exact ly161_3 h
theorem lcr1_4 {M : AwM} (h : LAY M) {cr : Int} (hs : cr = 153 ∨ cr = 160) : M (cr + 1) 4 = cr + 5 := by rcases hs with rfl | rfl; exact ly154_4 h; exact ly161_4 h
theorem gd_t {α : Type} {c : Prop} [Decidable c] {t : Option α} (h : c) : gd_ c t = t := if_pos h
theorem pb_1 {α β : Type} (a : α) (f : α → Option β) : pb (some a) f = f a := rfl
theorem bd_1 {α β : Type} (x : α) (f : α → β) : bd_ x f = f x := rfl
theorem u1_1 {α β : Type} (f : α → β) (a : α) : u1 f a = f a := rfl
theorem u2_1 {α β γ : Type} (f : α → β → γ) (a : α) (b : β) : u2 f (a, b) = f a b := rfl
theorem u3_1 {A B C D : Type} (f : A → B → C → D) (a : A) (b : B) (c : C) : u3 f (a, b, c) = f a b c := rfl
theorem u4_1 {A B C D E : Type} (f : A → B → C → D → E) (a : A) (b : B) (c : C) (d : D) : u4 f (a, b, c, d) = f a b c d := rfl
theorem u5_1 {A B C D E F : Type} (f : A → B → C → D → E → F) (a : A) (b : B) (c : C) (d : D) (e : E) : u5 f (a, b, c, d, e) = f a b c d e := rfl
theorem u0_1 {β : Type} (f : β) (t : Unit) : u0 f t = f := rfl
theorem w32_s {v : Int} (h0 : -2147483648 ≤ v) (h1 : v ≤ 2147483647) : w32 v = v := w32_id ⟨h0, h1⟩
/-- a set gathered place by place -/
def accB (P : Int → Bool) : Nat → Int
  | 0 => 0
  | i + 1 => if P (i : Int) then stb (accB P i) (i : Int) else accB P i
theorem accB_ms (P : Int → Bool) : ∀ n : Nat, ms n (accB P n)
  | 0 => ms_0 0
  | i + 1 => by
    have ih := accB_ms P i
    have up : ms (i + 1) (accB P i) := by
      obtain ⟨a, e, ha⟩ := ms_n.mp ih
      exact ms_n.mpr ⟨a, e, Nat.lt_trans ha (Nat.pow_lt_pow_right (by omega) (by omega))⟩
    unfold accB
    by_cases h : P (i : Int)
    · rw [if_pos h]; exact ms_stb up (by omega) (by omega)
    · rw [if_neg h]; exact up
theorem accB_hb (P : Int → Bool) {q : Int} (q0 : 0 ≤ q) : ∀ n : Nat, hb (accB P n) q = (decide (q < n) && P q)
  | 0 => by
    rw [show accB P 0 = 0 from rfl, hb_0]
    have : ¬ q < ((0 : Nat) : Int) := by omega
    rw [decide_eq_false this]; rfl
  | i + 1 => by
    have ih := accB_hb P q0 i
    unfold accB
    by_cases hq : q = (i : Int)
    · subst hq
      have h1 : ¬ ((i : Int) < (i : Int)) := by omega
      have h2 : (i : Int) < ((i + 1 : Nat) : Int) := by omega
      by_cases h : P (i : Int)
      · rw [if_pos h, hb_stb (by omega) q0, ih, decide_eq_true h2, h]; simp
      · rw [if_neg h, ih]; simp [h]
    · have h3 : decide (q < ((i + 1 : Nat) : Int)) = decide (q < (i : Int)) := by simp only [decide_eq_decide]; omega
      have h4 : ¬ ((i : Int) = q) := fun e => hq e.symm
      by_cases h : P (i : Int)
      · rw [if_pos h, hb_stb (by omega) q0, ih, h3]; simp [h4]
      · rw [if_neg h, ih, h3]
theorem accB_congr {P Q : Int → Bool} : ∀ n : Nat, (∀ c : Int, 0 ≤ c → c < n → P c = Q c) → accB P n = accB Q n
  | 0, _ => rfl
  | i + 1, h => by
    unfold accB
    rw [accB_congr i (fun c h0 h1 => h c h0 (by omega)), h (i : Int) (by omega) (by omega)]
/-- a sum gathered place by place -/
def accS (f : Int → Int) : Nat → Int
  | 0 => 0
  | i + 1 => accS f i + f (i : Int)
theorem accS_congr {f g : Int → Int} : ∀ n : Nat, (∀ c : Int, 0 ≤ c → c < n → f c = g c) → accS f n = accS g n
  | 0, _ => rfl
  | i + 1, h => by
    unfold accS
    rw [accS_congr i (fun c h0 h1 => h c h0 (by omega)), h (i : Int) (by omega) (by omega)]
theorem accS_b {f : Int → Int} {lo hi : Int} : ∀ n : Nat, (∀ c : Int, 0 ≤ c → c < n → lo ≤ f c ∧ f c ≤ hi) → lo * n ≤ accS f n ∧ accS f n ≤ hi * n
  | 0, _ => by simp [accS]
  | i + 1, h => by
    obtain ⟨a, b⟩ := accS_b i (fun c h0 h1 => h c h0 (by omega))
    obtain ⟨c, d⟩ := h (i : Int) (by omega) (by omega)
    unfold accS
    have e1 : lo * ((i + 1 : Nat) : Int) = lo * (i : Int) + lo := by rw [Int.natCast_add, Int.mul_add]; simp
    have e2 : hi * ((i + 1 : Nat) : Int) = hi * (i : Int) + hi := by rw [Int.natCast_add, Int.mul_add]; simp
    rw [e1, e2]
    omega
end PFACT
