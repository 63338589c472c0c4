theorem jci_6 : Int32.ofInt 6 = 6 := by decide
set_option maxRecDepth 100000 in
theorem ji_X5_age : jiw yX5_age := ⟨jtk_2 123 rfl rfl, jtk_2 124 rfl rfl⟩
set_option maxRecDepth 100000 in
theorem ji_X5_allSeen : jiw yX5_allSeen := ⟨jtk_3 153 rfl rfl, jtk_3 154 rfl rfl⟩
set_option maxRecDepth 100000 in
theorem ji_X5_back : jiw yX5_back := ⟨jtk_2 182 rfl rfl, jtk_2 183 rfl rfl⟩
set_option maxRecDepth 100000 in
theorem ji_X5_blind : jiw yX5_blind := ⟨jtk_3 165 rfl rfl, jtk_3 166 rfl rfl⟩
set_option maxRecDepth 100000 in
theorem ji_X5_burn : jiw yX5_burn := ⟨jtk_3 43 rfl rfl, jtk_3 44 rfl rfl⟩
set_option maxRecDepth 100000 in
theorem ji_X5_clear : jiw yX5_clear := ⟨jtk_3 38 rfl rfl, jtk_3 39 rfl rfl⟩
set_option maxRecDepth 100000 in
theorem ji_X5_count : jiw yX5_count := ⟨jtk_3 210 rfl rfl, jtk_3 211 rfl rfl⟩
set_option maxRecDepth 100000 in
theorem ji_X5_empties : jiw yX5_empties := ⟨jtk_3 185 rfl rfl, jtk_3 186 rfl rfl⟩
set_option maxRecDepth 100000 in
theorem ji_X5_evenings : jiw yX5_evenings := ⟨jtk_2 166 rfl rfl, jtk_2 167 rfl rfl⟩
set_option maxRecDepth 100000 in
theorem ji_X5_feed : jiw yX5_feed := ⟨jtk_1 179 rfl rfl, jtk_1 180 rfl rfl⟩
set_option maxRecDepth 100000 in
theorem ji_X5_forgiven : jiw yX5_forgiven := ⟨jtk_3 145 rfl rfl, jtk_3 146 rfl rfl⟩
set_option maxRecDepth 100000 in
theorem ji_X5_gaps : jiw yX5_gaps := ⟨jtk_3 157 rfl rfl, jtk_3 158 rfl rfl⟩
set_option maxRecDepth 100000 in
theorem ji_X5_goals : jiw yX5_goals := ⟨jtk_2 151 rfl rfl, jtk_2 152 rfl rfl⟩
set_option maxRecDepth 100000 in
theorem ji_X5_home : jiw yX5_home := ⟨jtk_2 208 rfl rfl, jtk_2 209 rfl rfl⟩
set_option maxRecDepth 100000 in
theorem ji_X5_house : jiw yX5_house := ⟨jtk_2 129 rfl rfl, jtk_2 130 rfl rfl⟩
set_option maxRecDepth 100000 in
theorem ji_X5_houseOf : jiw yX5_houseOf := ⟨jtk_2 79 rfl rfl, jtk_2 80 rfl rfl⟩
set_option maxRecDepth 100000 in
theorem ji_X5_image : jiw yX5_image := ⟨jtk_3 202 rfl rfl, jtk_3 203 rfl rfl⟩
set_option maxRecDepth 100000 in
theorem ji_X5_judge : jiw yX5_judge := ⟨jtk_3 181 rfl rfl, jtk_3 182 rfl rfl⟩
set_option maxRecDepth 100000 in
theorem ji_X5_lights : jiw yX5_lights := ⟨jtk_2 140 rfl rfl, jtk_2 141 rfl rfl⟩
set_option maxRecDepth 100000 in
theorem ji_X5_lots : jiw yX5_lots := ⟨jtk_3 189 rfl rfl, jtk_3 190 rfl rfl⟩
set_option maxRecDepth 100000 in
theorem ji_X5_mean : jiw yX5_mean := ⟨jtk_3 141 rfl rfl, jtk_3 142 rfl rfl⟩
set_option maxRecDepth 100000 in
theorem ji_X5_mist : jiw yX5_mist := ⟨jtk_3 104 rfl rfl, jtk_3 105 rfl rfl⟩
set_option maxRecDepth 100000 in
theorem ji_X5_moved : jiw yX5_moved := ⟨jtk_3 169 rfl rfl, jtk_3 170 rfl rfl⟩
set_option maxRecDepth 100000 in
theorem ji_X5_nearest : jiw yX5_nearest := ⟨jtk_3 149 rfl rfl, jtk_3 150 rfl rfl⟩
set_option maxRecDepth 100000 in
theorem ji_X5_oldest : jiw yX5_oldest := ⟨jtk_3 117 rfl rfl, jtk_3 118 rfl rfl⟩
set_option maxRecDepth 100000 in
theorem ji_X5_owed : jiw yX5_owed := ⟨jtk_2 203 rfl rfl, jtk_2 204 rfl rfl⟩
set_option maxRecDepth 100000 in
theorem ji_X5_payAll : jiw yX5_payAll := ⟨jtk_3 11 rfl rfl, jtk_3 12 rfl rfl⟩
set_option maxRecDepth 100000 in
theorem ji_X5_prices : jiw yX5_prices := ⟨jtk_2 195 rfl rfl, jtk_2 196 rfl rfl⟩
set_option maxRecDepth 100000 in
theorem ji_X5_restore : jiw yX5_restore := ⟨jtk_3 206 rfl rfl, jtk_3 207 rfl rfl⟩
set_option maxRecDepth 100000 in
theorem ji_X5_richest : jiw yX5_richest := ⟨jtk_2 213 rfl rfl, jtk_2 214 rfl rfl⟩
set_option maxRecDepth 100000 in
theorem ji_X5_row : jiw yX5_row := ⟨jtk_3 177 rfl rfl, jtk_3 178 rfl rfl⟩
set_option maxRecDepth 100000 in
theorem ji_X5_shut : jiw yX5_shut := ⟨jtk_3 51 rfl rfl, jtk_3 52 rfl rfl⟩
set_option maxRecDepth 100000 in
theorem ji_X5_spread : jiw yX5_spread := ⟨jtk_3 68 rfl rfl, jtk_3 69 rfl rfl⟩
set_option maxRecDepth 100000 in
theorem ji_X5_street : jiw yX5_street := ⟨jtk_3 173 rfl rfl, jtk_3 174 rfl rfl⟩
set_option maxRecDepth 100000 in
theorem ji_X5_trade : jiw yX5_trade := ⟨jtk_3 55 rfl rfl, jtk_3 56 rfl rfl⟩
set_option maxRecDepth 100000 in
theorem ji_X5_trades : jiw yX5_trades := ⟨jtk_2 162 rfl rfl, jtk_2 163 rfl rfl⟩
set_option maxRecDepth 100000 in
theorem ji_X5_two : jiw yX5_two := ⟨jtk_3 96 rfl rfl, jtk_3 97 rfl rfl⟩
set_option maxRecDepth 100000 in
theorem ji_X5_village : jiw yX5_village := ⟨jtk_1 196 rfl rfl, jtk_1 197 rfl rfl⟩
set_option maxRecDepth 100000 in
theorem ji_X5_visits : jiw yX5_visits := ⟨jtk_2 156 rfl rfl, jtk_2 157 rfl rfl⟩
set_option maxRecDepth 100000 in
theorem ji_X5_walker : jiw yX5_walker := ⟨jtk_2 135 rfl rfl, jtk_2 136 rfl rfl⟩
set_option maxRecDepth 100000 in
theorem ji_X5_walkerIn : jiw yX5_walkerIn := ⟨jtk_2 190 rfl rfl, jtk_2 191 rfl rfl⟩
set_option maxRecDepth 100000 in
theorem ji_X5_walkerOf : jiw yX5_walkerOf := ⟨jtk_2 101 rfl rfl, jtk_2 102 rfl rfl⟩
set_option maxRecDepth 100000 in
theorem ji_X5_way : jiw yX5_way := ⟨jtk_2 226 rfl rfl, jtk_2 227 rfl rfl⟩
set_option maxRecDepth 100000 in
theorem ji_X5_whatKind : jiw yX5_whatKind := ⟨jtk_3 80 rfl rfl, jtk_3 81 rfl rfl⟩
set_option maxRecDepth 100000 in
theorem ji_X5_whoWent : jiw yX5_whoWent := ⟨jtk_3 64 rfl rfl, jtk_3 65 rfl rfl⟩
set_option maxRecDepth 100000 in
theorem ji_X6_age : jiw yX6_age := ⟨jtk_5 8 rfl rfl, jtk_5 9 rfl rfl⟩
set_option maxRecDepth 100000 in
theorem ji_X6_allSeen : jiw yX6_allSeen := ⟨jtk_5 192 rfl rfl, jtk_5 193 rfl rfl⟩
set_option maxRecDepth 100000 in
theorem ji_X6_back : jiw yX6_back := ⟨jtk_4 214 rfl rfl, jtk_4 215 rfl rfl⟩
set_option maxRecDepth 100000 in
theorem ji_X6_blind : jiw yX6_blind := ⟨jtk_5 200 rfl rfl, jtk_5 201 rfl rfl⟩
set_option maxRecDepth 100000 in
theorem ji_X6_burn : jiw yX6_burn := ⟨jtk_5 113 rfl rfl, jtk_5 114 rfl rfl⟩
set_option maxRecDepth 100000 in
theorem ji_X6_clear : jiw yX6_clear := ⟨jtk_5 108 rfl rfl, jtk_5 109 rfl rfl⟩
set_option maxRecDepth 100000 in
theorem ji_X6_count : jiw yX6_count := ⟨jtk_5 236 rfl rfl, jtk_5 237 rfl rfl⟩
set_option maxRecDepth 100000 in
theorem ji_X6_empties : jiw yX6_empties := ⟨jtk_5 221 rfl rfl, jtk_5 222 rfl rfl⟩
set_option maxRecDepth 100000 in
theorem ji_X6_evenings : jiw yX6_evenings := ⟨jtk_5 47 rfl rfl, jtk_5 48 rfl rfl⟩
set_option maxRecDepth 100000 in
theorem ji_X6_feed : jiw yX6_feed := ⟨jtk_4 98 rfl rfl, jtk_4 99 rfl rfl⟩
set_option maxRecDepth 100000 in
theorem ji_X6_forgiven : jiw yX6_forgiven := ⟨jtk_5 184 rfl rfl, jtk_5 185 rfl rfl⟩
set_option maxRecDepth 100000 in
theorem ji_X6_gaps : jiw yX6_gaps := ⟨jtk_5 196 rfl rfl, jtk_5 197 rfl rfl⟩
set_option maxRecDepth 100000 in
theorem ji_X6_goals : jiw yX6_goals := ⟨jtk_5 35 rfl rfl, jtk_5 36 rfl rfl⟩
set_option maxRecDepth 100000 in
theorem ji_X6_home : jiw yX6_home := ⟨jtk_5 77 rfl rfl, jtk_5 78 rfl rfl⟩
set_option maxRecDepth 100000 in
theorem ji_X6_house : jiw yX6_house := ⟨jtk_5 16 rfl rfl, jtk_5 17 rfl rfl⟩
set_option maxRecDepth 100000 in
theorem ji_X6_houseOf : jiw yX6_houseOf := ⟨jtk_4 218 rfl rfl, jtk_4 219 rfl rfl⟩
set_option maxRecDepth 100000 in
theorem ji_X6_image : jiw yX6_image := ⟨jtk_4 206 rfl rfl, jtk_4 207 rfl rfl⟩
set_option maxRecDepth 100000 in
theorem ji_X6_judge : jiw yX6_judge := ⟨jtk_5 217 rfl rfl, jtk_5 218 rfl rfl⟩
set_option maxRecDepth 100000 in
theorem ji_X6_lights : jiw yX6_lights := ⟨jtk_5 27 rfl rfl, jtk_5 28 rfl rfl⟩
set_option maxRecDepth 100000 in
theorem ji_X6_lots : jiw yX6_lots := ⟨jtk_5 225 rfl rfl, jtk_5 226 rfl rfl⟩
set_option maxRecDepth 100000 in
theorem ji_X6_mean : jiw yX6_mean := ⟨jtk_5 180 rfl rfl, jtk_5 181 rfl rfl⟩
set_option maxRecDepth 100000 in
theorem ji_X6_mist : jiw yX6_mist := ⟨jtk_5 149 rfl rfl, jtk_5 150 rfl rfl⟩
set_option maxRecDepth 100000 in
theorem ji_X6_moved : jiw yX6_moved := ⟨jtk_5 204 rfl rfl, jtk_5 205 rfl rfl⟩
set_option maxRecDepth 100000 in
theorem ji_X6_nearest : jiw yX6_nearest := ⟨jtk_5 188 rfl rfl, jtk_5 189 rfl rfl⟩
set_option maxRecDepth 100000 in
theorem ji_X6_oldest : jiw yX6_oldest := ⟨jtk_5 160 rfl rfl, jtk_5 161 rfl rfl⟩
set_option maxRecDepth 100000 in
theorem ji_X6_owed : jiw yX6_owed := ⟨jtk_5 73 rfl rfl, jtk_5 74 rfl rfl⟩
set_option maxRecDepth 100000 in
theorem ji_X6_payAll : jiw yX6_payAll := ⟨jtk_5 96 rfl rfl, jtk_5 97 rfl rfl⟩
set_option maxRecDepth 100000 in
theorem ji_X6_prices : jiw yX6_prices := ⟨jtk_5 65 rfl rfl, jtk_5 66 rfl rfl⟩
set_option maxRecDepth 100000 in
theorem ji_X6_restore : jiw yX6_restore := ⟨jtk_4 210 rfl rfl, jtk_4 211 rfl rfl⟩
set_option maxRecDepth 100000 in
theorem ji_X6_richest : jiw yX6_richest := ⟨jtk_5 81 rfl rfl, jtk_5 82 rfl rfl⟩
set_option maxRecDepth 100000 in
theorem ji_X6_row : jiw yX6_row := ⟨jtk_5 213 rfl rfl, jtk_5 214 rfl rfl⟩
set_option maxRecDepth 100000 in
theorem ji_X6_shut : jiw yX6_shut := ⟨jtk_5 117 rfl rfl, jtk_5 118 rfl rfl⟩
set_option maxRecDepth 100000 in
theorem ji_X6_spread : jiw yX6_spread := ⟨jtk_5 133 rfl rfl, jtk_5 134 rfl rfl⟩
set_option maxRecDepth 100000 in
theorem ji_X6_street : jiw yX6_street := ⟨jtk_5 208 rfl rfl, jtk_5 209 rfl rfl⟩
set_option maxRecDepth 100000 in
theorem ji_X6_trade : jiw yX6_trade := ⟨jtk_5 121 rfl rfl, jtk_5 122 rfl rfl⟩
set_option maxRecDepth 100000 in
theorem ji_X6_trades : jiw yX6_trades := ⟨jtk_5 43 rfl rfl, jtk_5 44 rfl rfl⟩
set_option maxRecDepth 100000 in
theorem ji_X6_two : jiw yX6_two := ⟨jtk_5 145 rfl rfl, jtk_5 146 rfl rfl⟩
set_option maxRecDepth 100000 in
theorem ji_X6_village : jiw yX6_village := ⟨jtk_4 106 rfl rfl, jtk_4 107 rfl rfl⟩
set_option maxRecDepth 100000 in
theorem ji_X6_visits : jiw yX6_visits := ⟨jtk_5 39 rfl rfl, jtk_5 40 rfl rfl⟩
set_option maxRecDepth 100000 in
theorem ji_X6_walker : jiw yX6_walker := ⟨jtk_5 23 rfl rfl, jtk_5 24 rfl rfl⟩
set_option maxRecDepth 100000 in
theorem ji_X6_walkerIn : jiw yX6_walkerIn := ⟨jtk_5 58 rfl rfl, jtk_5 59 rfl rfl⟩
set_option maxRecDepth 100000 in
theorem ji_X6_walkerOf : jiw yX6_walkerOf := ⟨jtk_4 235 rfl rfl, jtk_4 236 rfl rfl⟩
set_option maxRecDepth 100000 in
theorem ji_X6_way : jiw yX6_way := ⟨jtk_5 85 rfl rfl, jtk_5 86 rfl rfl⟩
set_option maxRecDepth 100000 in
theorem ji_X6_whatKind : jiw yX6_whatKind := ⟨jtk_5 137 rfl rfl, jtk_5 138 rfl rfl⟩
set_option maxRecDepth 100000 in
theorem ji_X6_whoWent : jiw yX6_whoWent := ⟨jtk_5 129 rfl rfl, jtk_5 130 rfl rfl⟩
set_option maxRecDepth 100000 in
theorem jmL_100 : Cond.methodLink RL 100 yX6_clear ∈ jtb := jtk_5 107 rfl rfl
set_option maxRecDepth 100000 in
theorem jmL_101 : Cond.methodLink RL 101 yX5_burn ∈ jtb := jtk_3 42 rfl rfl
set_option maxRecDepth 100000 in
theorem jmL_104 : Cond.methodLink RL 104 yX6_burn ∈ jtb := jtk_5 112 rfl rfl
set_option maxRecDepth 100000 in
theorem jmL_105 : Cond.methodLink RL 105 yX5_shut ∈ jtb := jtk_3 50 rfl rfl
set_option maxRecDepth 100000 in
theorem jmL_108 : Cond.methodLink RL 108 yX6_shut ∈ jtb := jtk_5 116 rfl rfl
set_option maxRecDepth 100000 in
theorem jmL_109 : Cond.methodLink RL 109 yX5_trade ∈ jtb := jtk_3 54 rfl rfl
set_option maxRecDepth 100000 in
theorem jmL_112 : Cond.methodLink RL 112 yX6_trade ∈ jtb := jtk_5 120 rfl rfl
set_option maxRecDepth 100000 in
theorem jmL_113 : Cond.methodLink RL 113 yX5_whoWent ∈ jtb := jtk_3 63 rfl rfl
set_option maxRecDepth 100000 in
theorem jmL_116 : Cond.methodLink RL 116 yX6_whoWent ∈ jtb := jtk_5 128 rfl rfl
set_option maxRecDepth 100000 in
theorem jmL_117 : Cond.methodLink RL 117 yX5_spread ∈ jtb := jtk_3 67 rfl rfl
set_option maxRecDepth 100000 in
theorem jmL_120 : Cond.methodLink RL 120 yX6_spread ∈ jtb := jtk_5 132 rfl rfl
set_option maxRecDepth 100000 in
theorem jmL_121 : Cond.methodLink RL 121 yX5_whatKind ∈ jtb := jtk_3 79 rfl rfl
set_option maxRecDepth 100000 in
theorem jmL_124 : Cond.methodLink RL 124 yX6_whatKind ∈ jtb := jtk_5 136 rfl rfl
set_option maxRecDepth 100000 in
theorem jmL_125 : Cond.methodLink RL 125 yX5_two ∈ jtb := jtk_3 95 rfl rfl
set_option maxRecDepth 100000 in
theorem jmL_128 : Cond.methodLink RL 128 yX6_two ∈ jtb := jtk_5 144 rfl rfl
set_option maxRecDepth 100000 in
theorem jmL_129 : Cond.methodLink RL 129 yX5_mist ∈ jtb := jtk_3 103 rfl rfl
set_option maxRecDepth 100000 in
theorem jmL_13 : Cond.methodLink RL 13 yX5_feed ∈ jtb := jtk_1 178 rfl rfl
set_option maxRecDepth 100000 in
theorem jmL_133 : Cond.methodLink RL 133 yX6_mist ∈ jtb := jtk_5 148 rfl rfl
set_option maxRecDepth 100000 in
theorem jmL_134 : Cond.methodLink RL 134 yX5_oldest ∈ jtb := jtk_3 116 rfl rfl
set_option maxRecDepth 100000 in
theorem jmL_137 : Cond.methodLink RL 137 yX6_oldest ∈ jtb := jtk_5 159 rfl rfl
set_option maxRecDepth 100000 in
theorem jmL_138 : Cond.methodLink RL 138 yX5_mean ∈ jtb := jtk_3 140 rfl rfl
set_option maxRecDepth 100000 in
theorem jmL_142 : Cond.methodLink RL 142 yX6_mean ∈ jtb := jtk_5 179 rfl rfl
set_option maxRecDepth 100000 in
theorem jmL_143 : Cond.methodLink RL 143 yX5_forgiven ∈ jtb := jtk_3 144 rfl rfl
set_option maxRecDepth 100000 in
theorem jmL_146 : Cond.methodLink RL 146 yX6_forgiven ∈ jtb := jtk_5 183 rfl rfl
set_option maxRecDepth 100000 in
theorem jmL_147 : Cond.methodLink RL 147 yX5_nearest ∈ jtb := jtk_3 148 rfl rfl
set_option maxRecDepth 100000 in
theorem jmL_150 : Cond.methodLink RL 150 yX6_nearest ∈ jtb := jtk_5 187 rfl rfl
set_option maxRecDepth 100000 in
theorem jmL_151 : Cond.methodLink RL 151 yX5_allSeen ∈ jtb := jtk_3 152 rfl rfl
set_option maxRecDepth 100000 in
theorem jmL_154 : Cond.methodLink RL 154 yX6_allSeen ∈ jtb := jtk_5 191 rfl rfl
set_option maxRecDepth 100000 in
theorem jmL_155 : Cond.methodLink RL 155 yX5_gaps ∈ jtb := jtk_3 156 rfl rfl
set_option maxRecDepth 100000 in
theorem jmL_158 : Cond.methodLink RL 158 yX6_gaps ∈ jtb := jtk_5 195 rfl rfl
set_option maxRecDepth 100000 in
theorem jmL_159 : Cond.methodLink RL 159 yX5_blind ∈ jtb := jtk_3 164 rfl rfl
set_option maxRecDepth 100000 in
theorem jmL_162 : Cond.methodLink RL 162 yX6_blind ∈ jtb := jtk_5 199 rfl rfl
set_option maxRecDepth 100000 in
theorem jmL_163 : Cond.methodLink RL 163 yX5_moved ∈ jtb := jtk_3 168 rfl rfl
set_option maxRecDepth 100000 in
theorem jmL_166 : Cond.methodLink RL 166 yX6_moved ∈ jtb := jtk_5 203 rfl rfl
set_option maxRecDepth 100000 in
theorem jmL_167 : Cond.methodLink RL 167 yX5_street ∈ jtb := jtk_3 172 rfl rfl
set_option maxRecDepth 100000 in
theorem jmL_17 : Cond.methodLink RL 17 yX6_feed ∈ jtb := jtk_4 97 rfl rfl
set_option maxRecDepth 100000 in
theorem jmL_170 : Cond.methodLink RL 170 yX6_street ∈ jtb := jtk_5 207 rfl rfl
set_option maxRecDepth 100000 in
theorem jmL_171 : Cond.methodLink RL 171 yX5_row ∈ jtb := jtk_3 176 rfl rfl
set_option maxRecDepth 100000 in
theorem jmL_174 : Cond.methodLink RL 174 yX6_row ∈ jtb := jtk_5 212 rfl rfl
set_option maxRecDepth 100000 in
theorem jmL_175 : Cond.methodLink RL 175 yX5_judge ∈ jtb := jtk_3 180 rfl rfl
set_option maxRecDepth 100000 in
theorem jmL_178 : Cond.methodLink RL 178 yX6_judge ∈ jtb := jtk_5 216 rfl rfl
set_option maxRecDepth 100000 in
theorem jmL_179 : Cond.methodLink RL 179 yX5_empties ∈ jtb := jtk_3 184 rfl rfl
set_option maxRecDepth 100000 in
theorem jmL_18 : Cond.methodLink RL 18 yX5_village ∈ jtb := jtk_1 195 rfl rfl
set_option maxRecDepth 100000 in
theorem jmL_182 : Cond.methodLink RL 182 yX6_empties ∈ jtb := jtk_5 220 rfl rfl
set_option maxRecDepth 100000 in
theorem jmL_183 : Cond.methodLink RL 183 yX5_lots ∈ jtb := jtk_3 188 rfl rfl
set_option maxRecDepth 100000 in
theorem jmL_186 : Cond.methodLink RL 186 yX6_lots ∈ jtb := jtk_5 224 rfl rfl
set_option maxRecDepth 100000 in
theorem jmL_187 : Cond.methodLink RL 187 yX5_image ∈ jtb := jtk_3 201 rfl rfl
set_option maxRecDepth 100000 in
theorem jmL_190 : Cond.methodLink RL 190 yX6_image ∈ jtb := jtk_4 205 rfl rfl
set_option maxRecDepth 100000 in
theorem jmL_191 : Cond.methodLink RL 191 yX5_restore ∈ jtb := jtk_3 205 rfl rfl
set_option maxRecDepth 100000 in
theorem jmL_194 : Cond.methodLink RL 194 yX6_restore ∈ jtb := jtk_4 209 rfl rfl
set_option maxRecDepth 100000 in
theorem jmL_195 : Cond.methodLink RL 195 yX5_count ∈ jtb := jtk_3 209 rfl rfl
set_option maxRecDepth 100000 in
theorem jmL_198 : Cond.methodLink RL 198 yX6_count ∈ jtb := jtk_5 235 rfl rfl
set_option maxRecDepth 100000 in
theorem jmL_22 : Cond.methodLink RL 22 yX6_village ∈ jtb := jtk_4 105 rfl rfl
set_option maxRecDepth 100000 in
theorem jmL_23 : Cond.methodLink RL 23 yX5_houseOf ∈ jtb := jtk_2 78 rfl rfl
set_option maxRecDepth 100000 in
theorem jmL_27 : Cond.methodLink RL 27 yX6_houseOf ∈ jtb := jtk_4 217 rfl rfl
set_option maxRecDepth 100000 in
theorem jmL_28 : Cond.methodLink RL 28 yX5_walkerOf ∈ jtb := jtk_2 100 rfl rfl
set_option maxRecDepth 100000 in
theorem jmL_31 : Cond.methodLink RL 31 yX6_walkerOf ∈ jtb := jtk_4 234 rfl rfl
set_option maxRecDepth 100000 in
theorem jmL_32 : Cond.methodLink RL 32 yX5_age ∈ jtb := jtk_2 122 rfl rfl
set_option maxRecDepth 100000 in
theorem jmL_35 : Cond.methodLink RL 35 yX6_age ∈ jtb := jtk_5 7 rfl rfl
set_option maxRecDepth 100000 in
theorem jmL_36 : Cond.methodLink RL 36 yX5_house ∈ jtb := jtk_2 128 rfl rfl
set_option maxRecDepth 100000 in
theorem jmL_40 : Cond.methodLink RL 40 yX6_house ∈ jtb := jtk_5 15 rfl rfl
set_option maxRecDepth 100000 in
theorem jmL_41 : Cond.methodLink RL 41 yX5_walker ∈ jtb := jtk_2 134 rfl rfl
set_option maxRecDepth 100000 in
theorem jmL_44 : Cond.methodLink RL 44 yX6_walker ∈ jtb := jtk_5 22 rfl rfl
set_option maxRecDepth 100000 in
theorem jmL_45 : Cond.methodLink RL 45 yX5_lights ∈ jtb := jtk_2 139 rfl rfl
set_option maxRecDepth 100000 in
theorem jmL_48 : Cond.methodLink RL 48 yX6_lights ∈ jtb := jtk_5 26 rfl rfl
set_option maxRecDepth 100000 in
theorem jmL_49 : Cond.methodLink RL 49 yX5_goals ∈ jtb := jtk_2 150 rfl rfl
set_option maxRecDepth 100000 in
theorem jmL_52 : Cond.methodLink RL 52 yX6_goals ∈ jtb := jtk_5 34 rfl rfl
set_option maxRecDepth 100000 in
theorem jmL_53 : Cond.methodLink RL 53 yX5_visits ∈ jtb := jtk_2 155 rfl rfl
set_option maxRecDepth 100000 in
theorem jmL_56 : Cond.methodLink RL 56 yX6_visits ∈ jtb := jtk_5 38 rfl rfl
set_option maxRecDepth 100000 in
theorem jmL_57 : Cond.methodLink RL 57 yX5_trades ∈ jtb := jtk_2 161 rfl rfl
set_option maxRecDepth 100000 in
theorem jmL_60 : Cond.methodLink RL 60 yX6_trades ∈ jtb := jtk_5 42 rfl rfl
set_option maxRecDepth 100000 in
theorem jmL_61 : Cond.methodLink RL 61 yX5_evenings ∈ jtb := jtk_2 165 rfl rfl
set_option maxRecDepth 100000 in
theorem jmL_64 : Cond.methodLink RL 64 yX6_evenings ∈ jtb := jtk_5 46 rfl rfl
set_option maxRecDepth 100000 in
theorem jmL_65 : Cond.methodLink RL 65 yX5_back ∈ jtb := jtk_2 181 rfl rfl
set_option maxRecDepth 100000 in
theorem jmL_68 : Cond.methodLink RL 68 yX6_back ∈ jtb := jtk_4 213 rfl rfl
set_option maxRecDepth 100000 in
theorem jmL_69 : Cond.methodLink RL 69 yX5_walkerIn ∈ jtb := jtk_2 189 rfl rfl
set_option maxRecDepth 100000 in
theorem jmL_72 : Cond.methodLink RL 72 yX6_walkerIn ∈ jtb := jtk_5 57 rfl rfl
set_option maxRecDepth 100000 in
theorem jmL_73 : Cond.methodLink RL 73 yX5_prices ∈ jtb := jtk_2 194 rfl rfl
set_option maxRecDepth 100000 in
theorem jmL_76 : Cond.methodLink RL 76 yX6_prices ∈ jtb := jtk_5 64 rfl rfl
set_option maxRecDepth 100000 in
theorem jmL_77 : Cond.methodLink RL 77 yX5_owed ∈ jtb := jtk_2 202 rfl rfl
set_option maxRecDepth 100000 in
theorem jmL_80 : Cond.methodLink RL 80 yX6_owed ∈ jtb := jtk_5 72 rfl rfl
set_option maxRecDepth 100000 in
theorem jmL_81 : Cond.methodLink RL 81 yX5_home ∈ jtb := jtk_2 207 rfl rfl
set_option maxRecDepth 100000 in
theorem jmL_84 : Cond.methodLink RL 84 yX6_home ∈ jtb := jtk_5 76 rfl rfl
set_option maxRecDepth 100000 in
theorem jmL_85 : Cond.methodLink RL 85 yX5_richest ∈ jtb := jtk_2 212 rfl rfl
set_option maxRecDepth 100000 in
theorem jmL_88 : Cond.methodLink RL 88 yX6_richest ∈ jtb := jtk_5 80 rfl rfl
set_option maxRecDepth 100000 in
theorem jmL_89 : Cond.methodLink RL 89 yX5_way ∈ jtb := jtk_2 225 rfl rfl
set_option maxRecDepth 100000 in
theorem jmL_92 : Cond.methodLink RL 92 yX6_way ∈ jtb := jtk_5 84 rfl rfl
set_option maxRecDepth 100000 in
theorem jmL_93 : Cond.methodLink RL 93 yX5_payAll ∈ jtb := jtk_3 10 rfl rfl
set_option maxRecDepth 100000 in
theorem jmL_96 : Cond.methodLink RL 96 yX6_payAll ∈ jtb := jtk_5 95 rfl rfl
set_option maxRecDepth 100000 in
theorem jmL_97 : Cond.methodLink RL 97 yX5_clear ∈ jtb := jtk_3 37 rfl rfl
set_option maxRecDepth 100000 in
theorem jw_X5_age : jvw yX5_age cX5_age 3 (some .int) 2 := ⟨jtk_2 125 rfl rfl, jtk_1 1 rfl rfl, by decide +kernel⟩
set_option maxRecDepth 100000 in
theorem jw_X5_allSeen : jvw yX5_allSeen cX5_allSeen 5 (some .int) 1 := ⟨jtk_3 155 rfl rfl, jtk_1 1 rfl rfl, by decide +kernel⟩
set_option maxRecDepth 100000 in
theorem jw_X5_back : jvw yX5_back cX5_back 1 (some .int) 0 := ⟨jtk_2 184 rfl rfl, jtk_1 1 rfl rfl, by decide +kernel⟩
set_option maxRecDepth 100000 in
theorem jw_X5_blind : jvw yX5_blind cX5_blind 3 (some .int) 0 := ⟨jtk_3 167 rfl rfl, jtk_1 1 rfl rfl, by decide +kernel⟩
set_option maxRecDepth 100000 in
theorem jw_X5_burn : jvw yX5_burn cX5_burn 8 (some .int) 2 := ⟨jtk_3 45 rfl rfl, jtk_1 1 rfl rfl, by decide +kernel⟩
set_option maxRecDepth 100000 in
theorem jw_X5_clear : jvw yX5_clear cX5_clear 5 (some .int) 2 := ⟨jtk_3 40 rfl rfl, jtk_1 1 rfl rfl, by decide +kernel⟩
set_option maxRecDepth 100000 in
theorem jw_X5_count : jvw yX5_count cX5_count 2 (some .int) 1 := ⟨jtk_3 212 rfl rfl, jtk_1 1 rfl rfl, by decide +kernel⟩
set_option maxRecDepth 100000 in
theorem jw_X5_empties : jvw yX5_empties cX5_empties 2 (some .int) 0 := ⟨jtk_3 187 rfl rfl, jtk_1 1 rfl rfl, by decide +kernel⟩
set_option maxRecDepth 100000 in
theorem jw_X5_evenings : jvw yX5_evenings cX5_evenings 2 (some .int) 1 := ⟨jtk_2 168 rfl rfl, jtk_1 1 rfl rfl, by decide +kernel⟩
set_option maxRecDepth 100000 in
theorem jw_X5_feed : jvw yX5_feed cX5_feed 2 (some .int) 1 := ⟨jtk_1 181 rfl rfl, jtk_1 1 rfl rfl, by decide +kernel⟩
set_option maxRecDepth 100000 in
theorem jw_X5_forgiven : jvw yX5_forgiven cX5_forgiven 4 (some .int) 0 := ⟨jtk_3 147 rfl rfl, jtk_1 1 rfl rfl, by decide +kernel⟩
set_option maxRecDepth 100000 in
theorem jw_X5_gaps : jvw yX5_gaps cX5_gaps 4 (some .int) 0 := ⟨jtk_3 159 rfl rfl, jtk_1 1 rfl rfl, by decide +kernel⟩
set_option maxRecDepth 100000 in
theorem jw_X5_goals : jvw yX5_goals cX5_goals 4 (some .int) 2 := ⟨jtk_2 153 rfl rfl, jtk_1 1 rfl rfl, by decide +kernel⟩
set_option maxRecDepth 100000 in
theorem jw_X5_home : jvw yX5_home cX5_home 2 (some .int) 1 := ⟨jtk_2 210 rfl rfl, jtk_1 1 rfl rfl, by decide +kernel⟩
set_option maxRecDepth 100000 in
theorem jw_X5_house : jvw yX5_house cX5_house 4 (some .int) 3 := ⟨jtk_2 131 rfl rfl, jtk_1 1 rfl rfl, by decide +kernel⟩
set_option maxRecDepth 100000 in
theorem jw_X5_houseOf : jvw yX5_houseOf cX5_houseOf 3 (some .int) 2 := ⟨jtk_2 81 rfl rfl, jtk_1 1 rfl rfl, by decide +kernel⟩
set_option maxRecDepth 100000 in
theorem jw_X5_image : jvw yX5_image cX5_image 1 (some .int) 0 := ⟨jtk_3 204 rfl rfl, jtk_1 1 rfl rfl, by decide +kernel⟩
set_option maxRecDepth 100000 in
theorem jw_X5_judge : jvw yX5_judge cX5_judge 3 (some .int) 0 := ⟨jtk_3 183 rfl rfl, jtk_1 1 rfl rfl, by decide +kernel⟩
set_option maxRecDepth 100000 in
theorem jw_X5_lights : jvw yX5_lights cX5_lights 2 (some .int) 1 := ⟨jtk_2 142 rfl rfl, jtk_1 1 rfl rfl, by decide +kernel⟩
set_option maxRecDepth 100000 in
theorem jw_X5_lots : jvw yX5_lots cX5_lots 8 (some .int) 3 := ⟨jtk_3 191 rfl rfl, jtk_1 1 rfl rfl, by decide +kernel⟩
set_option maxRecDepth 100000 in
theorem jw_X5_mean : jvw yX5_mean cX5_mean 5 (some .long) 1 := ⟨jtk_3 143 rfl rfl, jtk_1 1 rfl rfl, by decide +kernel⟩
set_option maxRecDepth 100000 in
theorem jw_X5_mist : jvw yX5_mist cX5_mist 10 (some .long) 5 := ⟨jtk_3 106 rfl rfl, jtk_1 1 rfl rfl, by decide +kernel⟩
set_option maxRecDepth 100000 in
theorem jw_X5_moved : jvw yX5_moved cX5_moved 4 (some .int) 3 := ⟨jtk_3 171 rfl rfl, jtk_1 1 rfl rfl, by decide +kernel⟩
set_option maxRecDepth 100000 in
theorem jw_X5_nearest : jvw yX5_nearest cX5_nearest 6 (some .int) 1 := ⟨jtk_3 151 rfl rfl, jtk_1 1 rfl rfl, by decide +kernel⟩
set_option maxRecDepth 100000 in
theorem jw_X5_oldest : jvw yX5_oldest cX5_oldest 2 (some .int) 1 := ⟨jtk_3 119 rfl rfl, jtk_1 1 rfl rfl, by decide +kernel⟩
set_option maxRecDepth 100000 in
theorem jw_X5_owed : jvw yX5_owed cX5_owed 3 (some .int) 2 := ⟨jtk_2 205 rfl rfl, jtk_1 1 rfl rfl, by decide +kernel⟩
set_option maxRecDepth 100000 in
theorem jw_X5_payAll : jvw yX5_payAll cX5_payAll 3 (some .int) 2 := ⟨jtk_3 13 rfl rfl, jtk_1 1 rfl rfl, by decide +kernel⟩
set_option maxRecDepth 100000 in
theorem jw_X5_prices : jvw yX5_prices cX5_prices 2 (some .int) 1 := ⟨jtk_2 197 rfl rfl, jtk_1 1 rfl rfl, by decide +kernel⟩
set_option maxRecDepth 100000 in
theorem jw_X5_restore : jvw yX5_restore cX5_restore 1 (some .int) 0 := ⟨jtk_3 208 rfl rfl, jtk_1 1 rfl rfl, by decide +kernel⟩
set_option maxRecDepth 100000 in
theorem jw_X5_richest : jvw yX5_richest cX5_richest 2 (some .int) 1 := ⟨jtk_2 215 rfl rfl, jtk_1 1 rfl rfl, by decide +kernel⟩
set_option maxRecDepth 100000 in
theorem jw_X5_row : jvw yX5_row cX5_row 2 (some .int) 1 := ⟨jtk_3 179 rfl rfl, jtk_1 1 rfl rfl, by decide +kernel⟩
set_option maxRecDepth 100000 in
theorem jw_X5_shut : jvw yX5_shut cX5_shut 6 (some .int) 1 := ⟨jtk_3 53 rfl rfl, jtk_1 1 rfl rfl, by decide +kernel⟩
set_option maxRecDepth 100000 in
theorem jw_X5_spread : jvw yX5_spread cX5_spread 2 (some .int) 1 := ⟨jtk_3 70 rfl rfl, jtk_1 1 rfl rfl, by decide +kernel⟩
set_option maxRecDepth 100000 in
theorem jw_X5_street : jvw yX5_street cX5_street 5 (some .int) 1 := ⟨jtk_3 175 rfl rfl, jtk_1 1 rfl rfl, by decide +kernel⟩
set_option maxRecDepth 100000 in
theorem jw_X5_trade : jvw yX5_trade cX5_trade 7 (some .int) 2 := ⟨jtk_3 57 rfl rfl, jtk_1 1 rfl rfl, by decide +kernel⟩
set_option maxRecDepth 100000 in
theorem jw_X5_trades : jvw yX5_trades cX5_trades 5 (some .int) 3 := ⟨jtk_2 164 rfl rfl, jtk_1 1 rfl rfl, by decide +kernel⟩
set_option maxRecDepth 100000 in
theorem jw_X5_two : jvw yX5_two cX5_two 4 (some .int) 3 := ⟨jtk_3 98 rfl rfl, jtk_1 1 rfl rfl, by decide +kernel⟩
set_option maxRecDepth 100000 in
theorem jw_X5_village : jvw yX5_village cX5_village 2 (some .int) 0 := ⟨jtk_1 198 rfl rfl, jtk_1 1 rfl rfl, by decide +kernel⟩
set_option maxRecDepth 100000 in
theorem jw_X5_visits : jvw yX5_visits cX5_visits 4 (some .int) 2 := ⟨jtk_2 158 rfl rfl, jtk_1 1 rfl rfl, by decide +kernel⟩
set_option maxRecDepth 100000 in
theorem jw_X5_walker : jvw yX5_walker cX5_walker 4 (some .int) 3 := ⟨jtk_2 137 rfl rfl, jtk_1 1 rfl rfl, by decide +kernel⟩
set_option maxRecDepth 100000 in
theorem jw_X5_walkerIn : jvw yX5_walkerIn cX5_walkerIn 4 (some .int) 3 := ⟨jtk_2 192 rfl rfl, jtk_1 1 rfl rfl, by decide +kernel⟩
set_option maxRecDepth 100000 in
theorem jw_X5_walkerOf : jvw yX5_walkerOf cX5_walkerOf 3 (some .int) 2 := ⟨jtk_2 103 rfl rfl, jtk_1 1 rfl rfl, by decide +kernel⟩
set_option maxRecDepth 100000 in
theorem jw_X5_way : jvw yX5_way cX5_way 4 (some .int) 3 := ⟨jtk_2 228 rfl rfl, jtk_1 1 rfl rfl, by decide +kernel⟩
set_option maxRecDepth 100000 in
theorem jw_X5_whatKind : jvw yX5_whatKind cX5_whatKind 4 (some .int) 3 := ⟨jtk_3 82 rfl rfl, jtk_1 1 rfl rfl, by decide +kernel⟩
set_option maxRecDepth 100000 in
theorem jw_X5_whoWent : jvw yX5_whoWent cX5_whoWent 4 (some .int) 1 := ⟨jtk_3 66 rfl rfl, jtk_1 1 rfl rfl, by decide +kernel⟩
set_option maxRecDepth 100000 in
theorem jw_X6_age : jvw yX6_age cX6_age 4 (some .int) 2 := ⟨jtk_5 10 rfl rfl, jtk_1 8 rfl rfl, by decide +kernel⟩
set_option maxRecDepth 100000 in
theorem jw_X6_allSeen : jvw yX6_allSeen cX6_allSeen 4 (some .int) 1 := ⟨jtk_5 194 rfl rfl, jtk_1 8 rfl rfl, by decide +kernel⟩
set_option maxRecDepth 100000 in
theorem jw_X6_back : jvw yX6_back cX6_back 2 (some .int) 0 := ⟨jtk_4 216 rfl rfl, jtk_1 8 rfl rfl, by decide +kernel⟩
set_option maxRecDepth 100000 in
theorem jw_X6_blind : jvw yX6_blind cX6_blind 3 (some .int) 0 := ⟨jtk_5 202 rfl rfl, jtk_1 8 rfl rfl, by decide +kernel⟩
set_option maxRecDepth 100000 in
theorem jw_X6_burn : jvw yX6_burn cX6_burn 7 (some .int) 2 := ⟨jtk_5 115 rfl rfl, jtk_1 8 rfl rfl, by decide +kernel⟩
set_option maxRecDepth 100000 in
theorem jw_X6_clear : jvw yX6_clear cX6_clear 3 (some .int) 2 := ⟨jtk_5 110 rfl rfl, jtk_1 8 rfl rfl, by decide +kernel⟩
set_option maxRecDepth 100000 in
theorem jw_X6_count : jvw yX6_count cX6_count 2 (some .int) 1 := ⟨jtk_5 238 rfl rfl, jtk_1 8 rfl rfl, by decide +kernel⟩
set_option maxRecDepth 100000 in
theorem jw_X6_empties : jvw yX6_empties cX6_empties 2 (some .int) 0 := ⟨jtk_5 223 rfl rfl, jtk_1 8 rfl rfl, by decide +kernel⟩
set_option maxRecDepth 100000 in
theorem jw_X6_evenings : jvw yX6_evenings cX6_evenings 3 (some .int) 1 := ⟨jtk_5 49 rfl rfl, jtk_1 8 rfl rfl, by decide +kernel⟩
set_option maxRecDepth 100000 in
theorem jw_X6_feed : jvw yX6_feed cX6_feed 2 (some .int) 1 := ⟨jtk_4 100 rfl rfl, jtk_1 8 rfl rfl, by decide +kernel⟩
set_option maxRecDepth 100000 in
theorem jw_X6_forgiven : jvw yX6_forgiven cX6_forgiven 5 (some .int) 0 := ⟨jtk_5 186 rfl rfl, jtk_1 8 rfl rfl, by decide +kernel⟩
set_option maxRecDepth 100000 in
theorem jw_X6_gaps : jvw yX6_gaps cX6_gaps 4 (some .int) 0 := ⟨jtk_5 198 rfl rfl, jtk_1 8 rfl rfl, by decide +kernel⟩
set_option maxRecDepth 100000 in
theorem jw_X6_goals : jvw yX6_goals cX6_goals 4 (some .int) 2 := ⟨jtk_5 37 rfl rfl, jtk_1 8 rfl rfl, by decide +kernel⟩
set_option maxRecDepth 100000 in
theorem jw_X6_home : jvw yX6_home cX6_home 4 (some .int) 1 := ⟨jtk_5 79 rfl rfl, jtk_1 8 rfl rfl, by decide +kernel⟩
set_option maxRecDepth 100000 in
theorem jw_X6_house : jvw yX6_house cX6_house 5 (some .int) 3 := ⟨jtk_5 18 rfl rfl, jtk_1 8 rfl rfl, by decide +kernel⟩
set_option maxRecDepth 100000 in
theorem jw_X6_houseOf : jvw yX6_houseOf cX6_houseOf 3 (some .int) 2 := ⟨jtk_4 220 rfl rfl, jtk_1 8 rfl rfl, by decide +kernel⟩
set_option maxRecDepth 100000 in
theorem jw_X6_image : jvw yX6_image cX6_image 1 (some .int) 0 := ⟨jtk_4 208 rfl rfl, jtk_1 8 rfl rfl, by decide +kernel⟩
set_option maxRecDepth 100000 in
theorem jw_X6_judge : jvw yX6_judge cX6_judge 3 (some .int) 0 := ⟨jtk_5 219 rfl rfl, jtk_1 8 rfl rfl, by decide +kernel⟩
set_option maxRecDepth 100000 in
theorem jw_X6_lights : jvw yX6_lights cX6_lights 2 (some .int) 1 := ⟨jtk_5 29 rfl rfl, jtk_1 8 rfl rfl, by decide +kernel⟩
set_option maxRecDepth 100000 in
theorem jw_X6_lots : jvw yX6_lots cX6_lots 8 (some .int) 3 := ⟨jtk_5 227 rfl rfl, jtk_1 8 rfl rfl, by decide +kernel⟩
set_option maxRecDepth 100000 in
theorem jw_X6_mean : jvw yX6_mean cX6_mean 2 (some .long) 1 := ⟨jtk_5 182 rfl rfl, jtk_1 8 rfl rfl, by decide +kernel⟩
set_option maxRecDepth 100000 in
theorem jw_X6_mist : jvw yX6_mist cX6_mist 15 (some .long) 5 := ⟨jtk_5 151 rfl rfl, jtk_1 8 rfl rfl, by decide +kernel⟩
set_option maxRecDepth 100000 in
theorem jw_X6_moved : jvw yX6_moved cX6_moved 7 (some .int) 3 := ⟨jtk_5 206 rfl rfl, jtk_1 8 rfl rfl, by decide +kernel⟩
set_option maxRecDepth 100000 in
theorem jw_X6_nearest : jvw yX6_nearest cX6_nearest 6 (some .int) 1 := ⟨jtk_5 190 rfl rfl, jtk_1 8 rfl rfl, by decide +kernel⟩
set_option maxRecDepth 100000 in
theorem jw_X6_oldest : jvw yX6_oldest cX6_oldest 2 (some .int) 1 := ⟨jtk_5 162 rfl rfl, jtk_1 8 rfl rfl, by decide +kernel⟩
set_option maxRecDepth 100000 in
theorem jw_X6_owed : jvw yX6_owed cX6_owed 5 (some .int) 2 := ⟨jtk_5 75 rfl rfl, jtk_1 8 rfl rfl, by decide +kernel⟩
set_option maxRecDepth 100000 in
theorem jw_X6_payAll : jvw yX6_payAll cX6_payAll 7 (some .int) 2 := ⟨jtk_5 98 rfl rfl, jtk_1 8 rfl rfl, by decide +kernel⟩
set_option maxRecDepth 100000 in
theorem jw_X6_prices : jvw yX6_prices cX6_prices 4 (some .int) 1 := ⟨jtk_5 67 rfl rfl, jtk_1 8 rfl rfl, by decide +kernel⟩
set_option maxRecDepth 100000 in
theorem jw_X6_restore : jvw yX6_restore cX6_restore 1 (some .int) 0 := ⟨jtk_4 212 rfl rfl, jtk_1 8 rfl rfl, by decide +kernel⟩
set_option maxRecDepth 100000 in
theorem jw_X6_richest : jvw yX6_richest cX6_richest 6 (some .int) 1 := ⟨jtk_5 83 rfl rfl, jtk_1 8 rfl rfl, by decide +kernel⟩
set_option maxRecDepth 100000 in
theorem jw_X6_row : jvw yX6_row cX6_row 2 (some .int) 1 := ⟨jtk_5 215 rfl rfl, jtk_1 8 rfl rfl, by decide +kernel⟩
set_option maxRecDepth 100000 in
theorem jw_X6_shut : jvw yX6_shut cX6_shut 7 (some .int) 1 := ⟨jtk_5 119 rfl rfl, jtk_1 8 rfl rfl, by decide +kernel⟩
set_option maxRecDepth 100000 in
theorem jw_X6_spread : jvw yX6_spread cX6_spread 4 (some .int) 1 := ⟨jtk_5 135 rfl rfl, jtk_1 8 rfl rfl, by decide +kernel⟩
set_option maxRecDepth 100000 in
theorem jw_X6_street : jvw yX6_street cX6_street 6 (some .int) 1 := ⟨jtk_5 210 rfl rfl, jtk_1 8 rfl rfl, by decide +kernel⟩
set_option maxRecDepth 100000 in
theorem jw_X6_trade : jvw yX6_trade cX6_trade 8 (some .int) 2 := ⟨jtk_5 123 rfl rfl, jtk_1 8 rfl rfl, by decide +kernel⟩
set_option maxRecDepth 100000 in
theorem jw_X6_trades : jvw yX6_trades cX6_trades 5 (some .int) 3 := ⟨jtk_5 45 rfl rfl, jtk_1 8 rfl rfl, by decide +kernel⟩
set_option maxRecDepth 100000 in
theorem jw_X6_two : jvw yX6_two cX6_two 8 (some .int) 3 := ⟨jtk_5 147 rfl rfl, jtk_1 8 rfl rfl, by decide +kernel⟩
set_option maxRecDepth 100000 in
theorem jw_X6_village : jvw yX6_village cX6_village 2 (some .int) 0 := ⟨jtk_4 108 rfl rfl, jtk_1 8 rfl rfl, by decide +kernel⟩
set_option maxRecDepth 100000 in
theorem jw_X6_visits : jvw yX6_visits cX6_visits 5 (some .int) 2 := ⟨jtk_5 41 rfl rfl, jtk_1 8 rfl rfl, by decide +kernel⟩
set_option maxRecDepth 100000 in
theorem jw_X6_walker : jvw yX6_walker cX6_walker 5 (some .int) 3 := ⟨jtk_5 25 rfl rfl, jtk_1 8 rfl rfl, by decide +kernel⟩
set_option maxRecDepth 100000 in
theorem jw_X6_walkerIn : jvw yX6_walkerIn cX6_walkerIn 6 (some .int) 3 := ⟨jtk_5 60 rfl rfl, jtk_1 8 rfl rfl, by decide +kernel⟩
set_option maxRecDepth 100000 in
theorem jw_X6_walkerOf : jvw yX6_walkerOf cX6_walkerOf 3 (some .int) 2 := ⟨jtk_4 237 rfl rfl, jtk_1 8 rfl rfl, by decide +kernel⟩
set_option maxRecDepth 100000 in
theorem jw_X6_way : jvw yX6_way cX6_way 11 (some .int) 3 := ⟨jtk_5 87 rfl rfl, jtk_1 8 rfl rfl, by decide +kernel⟩
set_option maxRecDepth 100000 in
theorem jw_X6_whatKind : jvw yX6_whatKind cX6_whatKind 7 (some .int) 3 := ⟨jtk_5 139 rfl rfl, jtk_1 8 rfl rfl, by decide +kernel⟩
set_option maxRecDepth 100000 in
theorem jw_X6_whoWent : jvw yX6_whoWent cX6_whoWent 4 (some .int) 1 := ⟨jtk_5 131 rfl rfl, jtk_1 8 rfl rfl, by decide +kernel⟩
def f_L_law_l18 (xs : Nat → Int32) (L : Nat) : Nat → jm → Int32 → Option Int32
  | 0, _, _ => none
  | k_1 + 1, M_1, v3_1 => (if ((Int32.ofNat L) - 6) < v3_1 then (some 1) else (jgd v3_1 L (if ((xs (Int32.toNatClampNeg v3_1)) &&& 63) = 0 then (jgd (v3_1 + 1) L (jb2 (f_X5_feed M_1 (xs (Int32.toNatClampNeg (v3_1 + 1)))) fun r2 M_2 => (jgd (v3_1 + 1) L (jb2 (f_X6_feed M_2 (xs (Int32.toNatClampNeg (v3_1 + 1)))) fun r3 M_3 => ((f_L_law_l18 xs L k_1) M_3 (v3_1 + 6)))))) else (if ((xs (Int32.toNatClampNeg v3_1)) &&& 63) = 1 then (jb2 (f_X5_village M_1) fun r4 M_4 => (jb2 (f_X6_village M_4) fun r5 M_5 => ((f_L_law_l18 xs L k_1) M_5 (v3_1 + 6)))) else (if ((xs (Int32.toNatClampNeg v3_1)) &&& 63) = 2 then (jgd (v3_1 + 1) L (jgd (v3_1 + 2) L (jb2 (f_X5_houseOf M_1 (xs (Int32.toNatClampNeg (v3_1 + 1))) (xs (Int32.toNatClampNeg (v3_1 + 2)))) fun r6 M_6 => (jgd (v3_1 + 1) L (jgd (v3_1 + 2) L (jb2 (f_X6_houseOf M_6 (xs (Int32.toNatClampNeg (v3_1 + 1))) (xs (Int32.toNatClampNeg (v3_1 + 2)))) fun r7 M_7 => ((f_L_law_l18 xs L k_1) M_7 (v3_1 + 6)))))))) else (if ((xs (Int32.toNatClampNeg v3_1)) &&& 63) = 3 then (jgd (v3_1 + 1) L (jgd (v3_1 + 2) L (jb2 (f_X5_walkerOf M_1 (xs (Int32.toNatClampNeg (v3_1 + 1))) (xs (Int32.toNatClampNeg (v3_1 + 2)))) fun r8 M_8 => (jgd (v3_1 + 1) L (jgd (v3_1 + 2) L (jb2 (f_X6_walkerOf M_8 (xs (Int32.toNatClampNeg (v3_1 + 1))) (xs (Int32.toNatClampNeg (v3_1 + 2)))) fun r9 M_9 => ((f_L_law_l18 xs L k_1) M_9 (v3_1 + 6)))))))) else (if ((xs (Int32.toNatClampNeg v3_1)) &&& 63) = 4 then (jgd (v3_1 + 1) L (jgd (v3_1 + 2) L (jb2 (f_X5_age M_1 (xs (Int32.toNatClampNeg (v3_1 + 1))) (xs (Int32.toNatClampNeg (v3_1 + 2)))) fun r10 M_10 => (jgd (v3_1 + 1) L (jgd (v3_1 + 2) L (jb2 (f_X6_age M_10 (xs (Int32.toNatClampNeg (v3_1 + 1))) (xs (Int32.toNatClampNeg (v3_1 + 2)))) fun r11 M_11 => ((f_L_law_l18 xs L k_1) M_11 (v3_1 + 6)))))))) else (if ((xs (Int32.toNatClampNeg v3_1)) &&& 63) = 5 then (jgd (v3_1 + 1) L (jgd (v3_1 + 2) L (jgd (v3_1 + 3) L (jb2 (f_X5_house M_1 (xs (Int32.toNatClampNeg (v3_1 + 1))) (xs (Int32.toNatClampNeg (v3_1 + 2))) (xs (Int32.toNatClampNeg (v3_1 + 3)))) fun r12 M_12 => (jgd (v3_1 + 1) L (jgd (v3_1 + 2) L (jgd (v3_1 + 3) L (jb2 (f_X6_house M_12 (xs (Int32.toNatClampNeg (v3_1 + 1))) (xs (Int32.toNatClampNeg (v3_1 + 2))) (xs (Int32.toNatClampNeg (v3_1 + 3)))) fun r13 M_13 => ((f_L_law_l18 xs L k_1) M_13 (v3_1 + 6)))))))))) else (if ((xs (Int32.toNatClampNeg v3_1)) &&& 63) = 6 then (jgd (v3_1 + 1) L (jgd (v3_1 + 2) L (jgd (v3_1 + 3) L (jb2 (f_X5_walker M_1 (xs (Int32.toNatClampNeg (v3_1 + 1))) (xs (Int32.toNatClampNeg (v3_1 + 2))) (xs (Int32.toNatClampNeg (v3_1 + 3)))) fun r14 M_14 => (jgd (v3_1 + 1) L (jgd (v3_1 + 2) L (jgd (v3_1 + 3) L (jb2 (f_X6_walker M_14 (xs (Int32.toNatClampNeg (v3_1 + 1))) (xs (Int32.toNatClampNeg (v3_1 + 2))) (xs (Int32.toNatClampNeg (v3_1 + 3)))) fun r15 M_15 => ((f_L_law_l18 xs L k_1) M_15 (v3_1 + 6)))))))))) else (if ((xs (Int32.toNatClampNeg v3_1)) &&& 63) = 7 then (jgd (v3_1 + 1) L (jb2 (f_X5_lights M_1 (xs (Int32.toNatClampNeg (v3_1 + 1)))) fun r16 M_16 => (jgd (v3_1 + 1) L (jb2 (f_X6_lights M_16 (xs (Int32.toNatClampNeg (v3_1 + 1)))) fun r17 M_17 => ((f_L_law_l18 xs L k_1) M_17 (v3_1 + 6)))))) else (if ((xs (Int32.toNatClampNeg v3_1)) &&& 63) = 8 then (jgd (v3_1 + 1) L (jgd (v3_1 + 2) L (jb2 (f_X5_goals M_1 (xs (Int32.toNatClampNeg (v3_1 + 1))) (xs (Int32.toNatClampNeg (v3_1 + 2)))) fun r18 M_18 => (jgd (v3_1 + 1) L (jgd (v3_1 + 2) L (jb2 (f_X6_goals M_18 (xs (Int32.toNatClampNeg (v3_1 + 1))) (xs (Int32.toNatClampNeg (v3_1 + 2)))) fun r19 M_19 => ((f_L_law_l18 xs L k_1) M_19 (v3_1 + 6)))))))) else (if ((xs (Int32.toNatClampNeg v3_1)) &&& 63) = 9 then (jgd (v3_1 + 1) L (jgd (v3_1 + 2) L (jb2 (f_X5_visits M_1 (xs (Int32.toNatClampNeg (v3_1 + 1))) (xs (Int32.toNatClampNeg (v3_1 + 2)))) fun r20 M_20 => (jgd (v3_1 + 1) L (jgd (v3_1 + 2) L (jb2 (f_X6_visits M_20 (xs (Int32.toNatClampNeg (v3_1 + 1))) (xs (Int32.toNatClampNeg (v3_1 + 2)))) fun r21 M_21 => ((f_L_law_l18 xs L k_1) M_21 (v3_1 + 6)))))))) else (if ((xs (Int32.toNatClampNeg v3_1)) &&& 63) = 10 then (jgd (v3_1 + 1) L (jgd (v3_1 + 2) L (jgd (v3_1 + 3) L (jb2 (f_X5_trades M_1 (xs (Int32.toNatClampNeg (v3_1 + 1))) (xs (Int32.toNatClampNeg (v3_1 + 2))) (xs (Int32.toNatClampNeg (v3_1 + 3)))) fun r22 M_22 => (jgd (v3_1 + 1) L (jgd (v3_1 + 2) L (jgd (v3_1 + 3) L (jb2 (f_X6_trades M_22 (xs (Int32.toNatClampNeg (v3_1 + 1))) (xs (Int32.toNatClampNeg (v3_1 + 2))) (xs (Int32.toNatClampNeg (v3_1 + 3)))) fun r23 M_23 => ((f_L_law_l18 xs L k_1) M_23 (v3_1 + 6)))))))))) else (if ((xs (Int32.toNatClampNeg v3_1)) &&& 63) = 11 then (jgd (v3_1 + 1) L (jb2 (f_X5_evenings M_1 (xs (Int32.toNatClampNeg (v3_1 + 1)))) fun r24 M_24 => (jgd (v3_1 + 1) L (jb2 (f_X6_evenings M_24 (xs (Int32.toNatClampNeg (v3_1 + 1)))) fun r25 M_25 => ((f_L_law_l18 xs L k_1) M_25 (v3_1 + 6)))))) else (if ((xs (Int32.toNatClampNeg v3_1)) &&& 63) = 12 then (jb2 (f_X5_back M_1) fun r26 M_26 => (jb2 (f_X6_back M_26) fun r27 M_27 => ((f_L_law_l18 xs L k_1) M_27 (v3_1 + 6)))) else (if ((xs (Int32.toNatClampNeg v3_1)) &&& 63) = 13 then (jgd (v3_1 + 1) L (jgd (v3_1 + 2) L (jgd (v3_1 + 3) L (jb2 (f_X5_walkerIn M_1 (xs (Int32.toNatClampNeg (v3_1 + 1))) (xs (Int32.toNatClampNeg (v3_1 + 2))) (xs (Int32.toNatClampNeg (v3_1 + 3)))) fun r28 M_28 => (jgd (v3_1 + 1) L (jgd (v3_1 + 2) L (jgd (v3_1 + 3) L (jb2 (f_X6_walkerIn M_28 (xs (Int32.toNatClampNeg (v3_1 + 1))) (xs (Int32.toNatClampNeg (v3_1 + 2))) (xs (Int32.toNatClampNeg (v3_1 + 3)))) fun r29 M_29 => ((f_L_law_l18 xs L k_1) M_29 (v3_1 + 6)))))))))) else (if ((xs (Int32.toNatClampNeg v3_1)) &&& 63) = 14 then (jgd (v3_1 + 1) L (jb2 (f_X5_prices M_1 (xs (Int32.toNatClampNeg (v3_1 + 1)))) fun r30 M_30 => (jgd (v3_1 + 1) L (jb2 (f_X6_prices M_30 (xs (Int32.toNatClampNeg (v3_1 + 1)))) fun r31 M_31 => ((f_L_law_l18 xs L k_1) M_31 (v3_1 + 6)))))) else (if ((xs (Int32.toNatClampNeg v3_1)) &&& 63) = 15 then (jgd (v3_1 + 1) L (jgd (v3_1 + 2) L (jb2 (f_X5_owed M_1 (xs (Int32.toNatClampNeg (v3_1 + 1))) (xs (Int32.toNatClampNeg (v3_1 + 2)))) fun r32 M_32 => (jgd (v3_1 + 1) L (jgd (v3_1 + 2) L (jb2 (f_X6_owed M_32 (xs (Int32.toNatClampNeg (v3_1 + 1))) (xs (Int32.toNatClampNeg (v3_1 + 2)))) fun r33 M_33 => ((f_L_law_l18 xs L k_1) M_33 (v3_1 + 6)))))))) else (if ((xs (Int32.toNatClampNeg v3_1)) &&& 63) = 16 then (jgd (v3_1 + 1) L (jb2 (f_X5_home M_1 (xs (Int32.toNatClampNeg (v3_1 + 1)))) fun r34 M_34 => (jgd (v3_1 + 1) L (jb2 (f_X6_home M_34 (xs (Int32.toNatClampNeg (v3_1 + 1)))) fun r35 M_35 => ((f_L_law_l18 xs L k_1) M_35 (v3_1 + 6)))))) else (if ((xs (Int32.toNatClampNeg v3_1)) &&& 63) = 17 then (jgd (v3_1 + 1) L (jb2 (f_X5_richest M_1 (xs (Int32.toNatClampNeg (v3_1 + 1)))) fun r36 M_36 => (jgd (v3_1 + 1) L (jb2 (f_X6_richest M_36 (xs (Int32.toNatClampNeg (v3_1 + 1)))) fun r37 M_37 => ((f_L_law_l18 xs L k_1) M_37 (v3_1 + 6)))))) else (if ((xs (Int32.toNatClampNeg v3_1)) &&& 63) = 18 then (jgd (v3_1 + 1) L (jgd (v3_1 + 2) L (jgd (v3_1 + 3) L (jb2 (f_X5_way M_1 (xs (Int32.toNatClampNeg (v3_1 + 1))) (xs (Int32.toNatClampNeg (v3_1 + 2))) (xs (Int32.toNatClampNeg (v3_1 + 3)))) fun r38 M_38 => (jgd (v3_1 + 1) L (jgd (v3_1 + 2) L (jgd (v3_1 + 3) L (jb2 (f_X6_way M_38 (xs (Int32.toNatClampNeg (v3_1 + 1))) (xs (Int32.toNatClampNeg (v3_1 + 2))) (xs (Int32.toNatClampNeg (v3_1 + 3)))) fun r39 M_39 => ((f_L_law_l18 xs L k_1) M_39 (v3_1 + 6)))))))))) else (if ((xs (Int32.toNatClampNeg v3_1)) &&& 63) = 19 then (jgd (v3_1 + 1) L (jgd (v3_1 + 2) L (jb2 (f_X5_payAll M_1 (xs (Int32.toNatClampNeg (v3_1 + 1))) (xs (Int32.toNatClampNeg (v3_1 + 2)))) fun r40 M_40 => (jgd (v3_1 + 1) L (jgd (v3_1 + 2) L (jb2 (f_X6_payAll M_40 (xs (Int32.toNatClampNeg (v3_1 + 1))) (xs (Int32.toNatClampNeg (v3_1 + 2)))) fun r41 M_41 => ((f_L_law_l18 xs L k_1) M_41 (v3_1 + 6)))))))) else (if ((xs (Int32.toNatClampNeg v3_1)) &&& 63) = 20 then (jgd (v3_1 + 1) L (jgd (v3_1 + 2) L (jb2 (f_X5_clear M_1 (xs (Int32.toNatClampNeg (v3_1 + 1))) (xs (Int32.toNatClampNeg (v3_1 + 2)))) fun r42 M_42 => (jgd (v3_1 + 1) L (jgd (v3_1 + 2) L (jb2 (f_X6_clear M_42 (xs (Int32.toNatClampNeg (v3_1 + 1))) (xs (Int32.toNatClampNeg (v3_1 + 2)))) fun r43 M_43 => ((f_L_law_l18 xs L k_1) M_43 (v3_1 + 6)))))))) else (if ((xs (Int32.toNatClampNeg v3_1)) &&& 63) = 21 then (jgd (v3_1 + 1) L (jgd (v3_1 + 2) L (jb2 (f_X5_burn M_1 (xs (Int32.toNatClampNeg (v3_1 + 1))) (xs (Int32.toNatClampNeg (v3_1 + 2)))) fun r44 M_44 => (jgd (v3_1 + 1) L (jgd (v3_1 + 2) L (jb2 (f_X6_burn M_44 (xs (Int32.toNatClampNeg (v3_1 + 1))) (xs (Int32.toNatClampNeg (v3_1 + 2)))) fun r45 M_45 => ((f_L_law_l18 xs L k_1) M_45 (v3_1 + 6)))))))) else (if ((xs (Int32.toNatClampNeg v3_1)) &&& 63) = 22 then (jgd (v3_1 + 1) L (jb2 (f_X5_shut M_1 (xs (Int32.toNatClampNeg (v3_1 + 1)))) fun r46 M_46 => (jgd (v3_1 + 1) L (jb2 (f_X6_shut M_46 (xs (Int32.toNatClampNeg (v3_1 + 1)))) fun r47 M_47 => ((f_L_law_l18 xs L k_1) M_47 (v3_1 + 6)))))) else (if ((xs (Int32.toNatClampNeg v3_1)) &&& 63) = 23 then (jgd (v3_1 + 1) L (jgd (v3_1 + 2) L (jb2 (f_X5_trade M_1 (xs (Int32.toNatClampNeg (v3_1 + 1))) (xs (Int32.toNatClampNeg (v3_1 + 2)))) fun r48 M_48 => (jgd (v3_1 + 1) L (jgd (v3_1 + 2) L (jb2 (f_X6_trade M_48 (xs (Int32.toNatClampNeg (v3_1 + 1))) (xs (Int32.toNatClampNeg (v3_1 + 2)))) fun r49 M_49 => ((f_L_law_l18 xs L k_1) M_49 (v3_1 + 6)))))))) else (if ((xs (Int32.toNatClampNeg v3_1)) &&& 63) = 24 then (jgd (v3_1 + 1) L (jb2 (f_X5_whoWent M_1 (xs (Int32.toNatClampNeg (v3_1 + 1)))) fun r50 M_50 => (jgd (v3_1 + 1) L (jb2 (f_X6_whoWent M_50 (xs (Int32.toNatClampNeg (v3_1 + 1)))) fun r51 M_51 => ((f_L_law_l18 xs L k_1) M_51 (v3_1 + 6)))))) else (if ((xs (Int32.toNatClampNeg v3_1)) &&& 63) = 25 then (jgd (v3_1 + 1) L (jb2 (f_X5_spread M_1 (xs (Int32.toNatClampNeg (v3_1 + 1)))) fun r52 M_52 => (jgd (v3_1 + 1) L (jb2 (f_X6_spread M_52 (xs (Int32.toNatClampNeg (v3_1 + 1)))) fun r53 M_53 => ((f_L_law_l18 xs L k_1) M_53 (v3_1 + 6)))))) else (if ((xs (Int32.toNatClampNeg v3_1)) &&& 63) = 26 then (jgd (v3_1 + 1) L (jgd (v3_1 + 2) L (jgd (v3_1 + 3) L (jb2 (f_X5_whatKind M_1 (xs (Int32.toNatClampNeg (v3_1 + 1))) (xs (Int32.toNatClampNeg (v3_1 + 2))) (xs (Int32.toNatClampNeg (v3_1 + 3)))) fun r54 M_54 => (jgd (v3_1 + 1) L (jgd (v3_1 + 2) L (jgd (v3_1 + 3) L (jb2 (f_X6_whatKind M_54 (xs (Int32.toNatClampNeg (v3_1 + 1))) (xs (Int32.toNatClampNeg (v3_1 + 2))) (xs (Int32.toNatClampNeg (v3_1 + 3)))) fun r55 M_55 => ((f_L_law_l18 xs L k_1) M_55 (v3_1 + 6)))))))))) else (if ((xs (Int32.toNatClampNeg v3_1)) &&& 63) = 27 then (jgd (v3_1 + 1) L (jgd (v3_1 + 2) L (jgd (v3_1 + 3) L (jb2 (f_X5_two M_1 (xs (Int32.toNatClampNeg (v3_1 + 1))) (xs (Int32.toNatClampNeg (v3_1 + 2))) (xs (Int32.toNatClampNeg (v3_1 + 3)))) fun r56 M_56 => (jgd (v3_1 + 1) L (jgd (v3_1 + 2) L (jgd (v3_1 + 3) L (jb2 (f_X6_two M_56 (xs (Int32.toNatClampNeg (v3_1 + 1))) (xs (Int32.toNatClampNeg (v3_1 + 2))) (xs (Int32.toNatClampNeg (v3_1 + 3)))) fun r57 M_57 => ((f_L_law_l18 xs L k_1) M_57 (v3_1 + 6)))))))))) else (if ((xs (Int32.toNatClampNeg v3_1)) &&& 63) = 28 then (jgd (v3_1 + 1) L (jgd (v3_1 + 2) L (jgd (v3_1 + 3) L (jgd (v3_1 + 4) L (jgd (v3_1 + 5) L (jb2 (f_X5_mist M_1 (xs (Int32.toNatClampNeg (v3_1 + 1))) (xs (Int32.toNatClampNeg (v3_1 + 2))) (xs (Int32.toNatClampNeg (v3_1 + 3))) (xs (Int32.toNatClampNeg (v3_1 + 4))) (xs (Int32.toNatClampNeg (v3_1 + 5)))) fun r58 M_58 => (jgd (v3_1 + 1) L (jgd (v3_1 + 2) L (jgd (v3_1 + 3) L (jgd (v3_1 + 4) L (jgd (v3_1 + 5) L (jb2 (f_X6_mist M_58 (xs (Int32.toNatClampNeg (v3_1 + 1))) (xs (Int32.toNatClampNeg (v3_1 + 2))) (xs (Int32.toNatClampNeg (v3_1 + 3))) (xs (Int32.toNatClampNeg (v3_1 + 4))) (xs (Int32.toNatClampNeg (v3_1 + 5)))) fun r59 M_59 => ((f_L_law_l18 xs L k_1) M_59 (v3_1 + 6)))))))))))))) else (if ((xs (Int32.toNatClampNeg v3_1)) &&& 63) = 29 then (jgd (v3_1 + 1) L (jb2 (f_X5_oldest M_1 (xs (Int32.toNatClampNeg (v3_1 + 1)))) fun r60 M_60 => (jgd (v3_1 + 1) L (jb2 (f_X6_oldest M_60 (xs (Int32.toNatClampNeg (v3_1 + 1)))) fun r61 M_61 => ((f_L_law_l18 xs L k_1) M_61 (v3_1 + 6)))))) else (if ((xs (Int32.toNatClampNeg v3_1)) &&& 63) = 30 then (jgd (v3_1 + 1) L (jb2 (f_X5_mean M_1 (xs (Int32.toNatClampNeg (v3_1 + 1)))) fun r62 M_62 => (jgd (v3_1 + 1) L (jb2 (f_X6_mean M_62 (xs (Int32.toNatClampNeg (v3_1 + 1)))) fun r63 M_63 => ((f_L_law_l18 xs L k_1) M_63 (v3_1 + 6)))))) else (if ((xs (Int32.toNatClampNeg v3_1)) &&& 63) = 31 then (jb (f_X5_forgiven M_1) fun r64 => (jb2 (f_X6_forgiven M_1) fun r65 M_65 => ((f_L_law_l18 xs L k_1) M_65 (v3_1 + 6)))) else (if ((xs (Int32.toNatClampNeg v3_1)) &&& 63) = 32 then (jgd (v3_1 + 1) L (jb2 (f_X5_nearest M_1 (xs (Int32.toNatClampNeg (v3_1 + 1)))) fun r66 M_66 => (jgd (v3_1 + 1) L (jb2 (f_X6_nearest M_66 (xs (Int32.toNatClampNeg (v3_1 + 1)))) fun r67 M_67 => ((f_L_law_l18 xs L k_1) M_67 (v3_1 + 6)))))) else (if ((xs (Int32.toNatClampNeg v3_1)) &&& 63) = 33 then (jgd (v3_1 + 1) L (jb2 (f_X5_allSeen M_1 (xs (Int32.toNatClampNeg (v3_1 + 1)))) fun r68 M_68 => (jgd (v3_1 + 1) L (jb2 (f_X6_allSeen M_68 (xs (Int32.toNatClampNeg (v3_1 + 1)))) fun r69 M_69 => ((f_L_law_l18 xs L k_1) M_69 (v3_1 + 6)))))) else (if ((xs (Int32.toNatClampNeg v3_1)) &&& 63) = 34 then (jb (f_X5_gaps M_1) fun r70 => (jb2 (f_X6_gaps M_1) fun r71 M_71 => ((f_L_law_l18 xs L k_1) M_71 (v3_1 + 6)))) else (if ((xs (Int32.toNatClampNeg v3_1)) &&& 63) = 35 then (jb (f_X5_blind M_1) fun r72 => (jb2 (f_X6_blind M_1) fun r73 M_73 => ((f_L_law_l18 xs L k_1) M_73 (v3_1 + 6)))) else (if ((xs (Int32.toNatClampNeg v3_1)) &&& 63) = 36 then (jgd (v3_1 + 1) L (jgd (v3_1 + 2) L (jgd (v3_1 + 3) L (jb2 (f_X5_moved M_1 (xs (Int32.toNatClampNeg (v3_1 + 1))) (xs (Int32.toNatClampNeg (v3_1 + 2))) (xs (Int32.toNatClampNeg (v3_1 + 3)))) fun r74 M_74 => (jgd (v3_1 + 1) L (jgd (v3_1 + 2) L (jgd (v3_1 + 3) L (jb2 (f_X6_moved M_74 (xs (Int32.toNatClampNeg (v3_1 + 1))) (xs (Int32.toNatClampNeg (v3_1 + 2))) (xs (Int32.toNatClampNeg (v3_1 + 3)))) fun r75 M_75 => ((f_L_law_l18 xs L k_1) M_75 (v3_1 + 6)))))))))) else (if ((xs (Int32.toNatClampNeg v3_1)) &&& 63) = 37 then (jgd (v3_1 + 1) L (jb2 (f_X5_street M_1 (xs (Int32.toNatClampNeg (v3_1 + 1)))) fun r76 M_76 => (jgd (v3_1 + 1) L (jb2 (f_X6_street M_76 (xs (Int32.toNatClampNeg (v3_1 + 1)))) fun r77 M_77 => ((f_L_law_l18 xs L k_1) M_77 (v3_1 + 6)))))) else (if ((xs (Int32.toNatClampNeg v3_1)) &&& 63) = 38 then (jgd (v3_1 + 1) L (jb2 (f_X5_row M_1 (xs (Int32.toNatClampNeg (v3_1 + 1)))) fun r78 M_78 => (jgd (v3_1 + 1) L (jb2 (f_X6_row M_78 (xs (Int32.toNatClampNeg (v3_1 + 1)))) fun r79 M_79 => ((f_L_law_l18 xs L k_1) M_79 (v3_1 + 6)))))) else (if ((xs (Int32.toNatClampNeg v3_1)) &&& 63) = 39 then (jb2 (f_X5_judge M_1) fun r80 M_80 => (jb2 (f_X6_judge M_80) fun r81 M_81 => ((f_L_law_l18 xs L k_1) M_81 (v3_1 + 6)))) else (if ((xs (Int32.toNatClampNeg v3_1)) &&& 63) = 40 then (jb2 (f_X5_empties M_1) fun r82 M_82 => (jb2 (f_X6_empties M_82) fun r83 M_83 => ((f_L_law_l18 xs L k_1) M_83 (v3_1 + 6)))) else (if ((xs (Int32.toNatClampNeg v3_1)) &&& 63) = 41 then (jgd (v3_1 + 1) L (jgd (v3_1 + 2) L (jgd (v3_1 + 3) L (jb2 (f_X5_lots M_1 (xs (Int32.toNatClampNeg (v3_1 + 1))) (xs (Int32.toNatClampNeg (v3_1 + 2))) (xs (Int32.toNatClampNeg (v3_1 + 3)))) fun r84 M_84 => (jgd (v3_1 + 1) L (jgd (v3_1 + 2) L (jgd (v3_1 + 3) L (jb2 (f_X6_lots M_84 (xs (Int32.toNatClampNeg (v3_1 + 1))) (xs (Int32.toNatClampNeg (v3_1 + 2))) (xs (Int32.toNatClampNeg (v3_1 + 3)))) fun r85 M_85 => ((f_L_law_l18 xs L k_1) M_85 (v3_1 + 6)))))))))) else (if ((xs (Int32.toNatClampNeg v3_1)) &&& 63) = 42 then (jb2 (f_X5_image M_1) fun r86 M_86 => (jb2 (f_X6_image M_86) fun r87 M_87 => ((f_L_law_l18 xs L k_1) M_87 (v3_1 + 6)))) else (if ((xs (Int32.toNatClampNeg v3_1)) &&& 63) = 43 then (jb2 (f_X5_restore M_1) fun r88 M_88 => (jb2 (f_X6_restore M_88) fun r89 M_89 => ((f_L_law_l18 xs L k_1) M_89 (v3_1 + 6)))) else (if ((xs (Int32.toNatClampNeg v3_1)) &&& 63) = 44 then (jgd (v3_1 + 1) L (jb (f_X5_count M_1 (xs (Int32.toNatClampNeg (v3_1 + 1)))) fun r90 => (jgd (v3_1 + 1) L (jb2 (f_X6_count M_1 (xs (Int32.toNatClampNeg (v3_1 + 1)))) fun r91 M_91 => (if r90 = r91 then ((f_L_law_l18 xs L k_1) M_91 (v3_1 + 6)) else (some 0)))))) else ((f_L_law_l18 xs L k_1) M_1 (v3_1 + 6)))))))))))))))))))))))))))))))))))))))))))))))))
set_option maxHeartbeats 4000000 in
set_option maxRecDepth 100000 in
theorem law_loop {p : Program} {l : Launch} {e : Env} {s : State} {m : MethodId} {below : List Frame} {meth : Method} {c : Code} {b L : Nat} {xs : Nat → Int32} {X : jX} (S : CallFix p m c code 4 s #[Value.ref b] jtb RL) (hr : meth.sig.returnType = ret) (hlocks : meth.locks = false) (hX : va_X b L xs s s.heap) (hbl : b < s.heap.size) (hK : jK X s) (hs : jst X (fun q : Nat => s.heap.size ≤ q)) :
    ∀ (k_1 : Nat) (M_1 : jm) (H : Heap) (locs : List Loc) (v3_1 : Int32) (ls : Array Slot), f_L_law_l18 xs L k_1 M_1 v3_1 = some 1 → jrp X M_1 H → va_S (fun q : Nat => s.heap.size ≤ q) s.heap H locs → lv_has ls 4 [(0, .ref b), (1, .ref (jO X 0)), (2, .ref (jO X 16)), (3, .int v3_1)] → W p l e room_1 s m #[Value.ref b] below meth c H locs 123 17317 (lw_Z below #[Value.ref b] s) (F0 m 18 ls []) := by
  obtain ⟨hx, hb, hml, hown, hts⟩ := id S
  have hN := hK.2
  have hbA : ¬ (fun q : Nat => s.heap.size ≤ q) b := Nat.not_le.mpr hbl
  intro k_1
  induction k_1 with
  | zero => intro M_1 H locs v3_1 ls h; exact jh_0 h
  | succ k_1 ih18 =>
    intro M_1 H locs v3_1 ls h hP hS hl
    refine lv_iload_n hx hb dL_law_18 rfl (lv_at hl 3 rfl) ?_
    refine lv_aload_n hx hb dL_law_19 rfl (lv_at hl 0 rfl) ?_
    refine va_slen hx hb hX hbl hbA hS dL_law_20 ?_
    refine lv_bipush (v := 6) hx hb dL_law_21 jcb_6 ?_
    refine lv_isub hx hb dL_law_23 ?_
    refine lv_icmp_gt (tgt := 1499) hx hb dL_law_24 rfl (fun c24 => ?_) (fun c24 => ?_)
    · replace h := jh_t h c24
      refine lv_iconst (v := 1) hx hb dL_law_1499 jci_1 ?_
      refine va_forget (fun q hq => hS.2.2 q hq) ?_
      refine W.widen (k := 600000) (n := 7302250) (Nat.le_of_ble_eq_true rfl) (Nat.le_of_ble_eq_true rfl) ?_
      exact lw_ret hx hb hr hlocks dL_law_1500
    · replace h := jh_f h c24
      refine lv_aload_n hx hb dL_law_27 rfl (lv_at hl 0 rfl) ?_
      refine lv_iload_n hx hb dL_law_28 rfl (lv_at hl 3 rfl) ?_
      obtain ⟨g29, h⟩ := jh_gd h
      refine va_sld hx hb hX hbl hbA hS g29 dL_law_29 ?_
      refine lv_bipush (v := 63) hx hb dL_law_30 jcb_63 ?_
      refine lv_iand hx hb dL_law_32 ?_
      by_cases c33_0 : ((xs (Int32.toNatClampNeg v3_1)) &&& 63) = 0
      · replace h := jh_t h c33_0
        refine lv_tableIn (off := 195) (tgt := 228) hx hb dL_law_33 (by rw [c33_0]; decide) (by rw [c33_0]; decide) (by rw [c33_0]; rfl) rfl ?_
        refine lv_aload_n hx hb dL_law_228 rfl (lv_at hl 1 rfl) ?_
        refine lv_aload_n hx hb dL_law_229 rfl (lv_at hl 0 rfl) ?_
        refine lv_iload_n hx hb dL_law_230 rfl (lv_at hl 3 rfl) ?_
        refine lv_iconst (v := 1) hx hb dL_law_231 jci_1 ?_
        refine lv_iadd hx hb dL_law_232 ?_
        obtain ⟨g233, h⟩ := jh_gd h
        refine va_sld hx hb hX hbl hbA hS g233 dL_law_233 ?_
        obtain ⟨r2, M_2, e2, h⟩ := jh_b2 h
        refine jr_km (jr_rv (As := [.int (xs (Int32.toNatClampNeg (v3_1 + 1)))]) (rest := []) S hK hP jb_0 rfl (m_X5_feed l X (fun q : Nat => s.heap.size ≤ q) hs M_1 (xs (Int32.toNatClampNeg (v3_1 + 1))) r2 M_2 e2) jw_X5_feed ji_X5_feed jmL_13 rfl rfl ⟨(Nat.le_of_ble_eq_true rfl), (Nat.le_of_ble_eq_true rfl)⟩ rfl hl.1 rfl (Nat.le_of_ble_eq_true rfl) dL_law_234 ⟨(Nat.le_of_ble_eq_true rfl), (Nat.le_of_ble_eq_true rfl)⟩) hS (fun H locs hP hS => ?_)
        refine lv_pop hx hb dL_law_237 rfl ?_
        refine lv_aload_n hx hb dL_law_238 rfl (lv_at hl 2 rfl) ?_
        refine lv_aload_n hx hb dL_law_239 rfl (lv_at hl 0 rfl) ?_
        refine lv_iload_n hx hb dL_law_240 rfl (lv_at hl 3 rfl) ?_
        refine lv_iconst (v := 1) hx hb dL_law_241 jci_1 ?_
        refine lv_iadd hx hb dL_law_242 ?_
        obtain ⟨g243, h⟩ := jh_gd h
        refine va_sld hx hb hX hbl hbA hS g243 dL_law_243 ?_
        obtain ⟨r3, M_3, e3, h⟩ := jh_b2 h
        refine jr_km (jr_rv (As := [.int (xs (Int32.toNatClampNeg (v3_1 + 1)))]) (rest := []) S hK hP jb_16 rfl (m_X6_feed l X (fun q : Nat => s.heap.size ≤ q) hs M_2 (xs (Int32.toNatClampNeg (v3_1 + 1))) r3 M_3 e3) jw_X6_feed ji_X6_feed jmL_17 rfl rfl ⟨(Nat.le_of_ble_eq_true rfl), (Nat.le_of_ble_eq_true rfl)⟩ rfl hl.1 rfl (Nat.le_of_ble_eq_true rfl) dL_law_244 ⟨(Nat.le_of_ble_eq_true rfl), (Nat.le_of_ble_eq_true rfl)⟩) hS (fun H locs hP hS => ?_)
        refine lv_pop hx hb dL_law_247 rfl ?_
        refine lv_goto (tgt := 1493) hx hb dL_law_248 rfl ?_
        refine lv_iinc (v := (v3_1 + 6)) (lv' := [(3, .int (v3_1 + 6)), (0, .ref b), (1, .ref (jO X 0)), (2, .ref (jO X 16))]) hx hb dL_law_1493 hl (k := 3) rfl (congrArg _ jci_6) (Nat.le_of_ble_eq_true rfl) rfl (fun ls hl => ?_)
        refine lv_goto (tgt := 18) hx hb dL_law_1496 rfl ?_
        exact ih18 M_3 _ _ (v3_1 + 6) _ h hP hS (lv_sub hl [1, 2, 3, 0] rfl)
      replace h := jh_f h c33_0
      by_cases c33_1 : ((xs (Int32.toNatClampNeg v3_1)) &&& 63) = 1
      · replace h := jh_t h c33_1
        refine lv_tableIn (off := 218) (tgt := 251) hx hb dL_law_33 (by rw [c33_1]; decide) (by rw [c33_1]; decide) (by rw [c33_1]; rfl) rfl ?_
        refine lv_aload_n hx hb dL_law_251 rfl (lv_at hl 1 rfl) ?_
        obtain ⟨r4, M_4, e4, h⟩ := jh_b2 h
        refine jr_km (jr_rv (As := []) (rest := []) S hK hP jb_0 rfl (m_X5_village l X (fun q : Nat => s.heap.size ≤ q) hs M_1  r4 M_4 e4) jw_X5_village ji_X5_village jmL_18 rfl rfl ⟨(Nat.le_of_ble_eq_true rfl), (Nat.le_of_ble_eq_true rfl)⟩ rfl hl.1 rfl (Nat.le_of_ble_eq_true rfl) dL_law_252 ⟨(Nat.le_of_ble_eq_true rfl), (Nat.le_of_ble_eq_true rfl)⟩) hS (fun H locs hP hS => ?_)
        refine lv_pop hx hb dL_law_255 rfl ?_
        refine lv_aload_n hx hb dL_law_256 rfl (lv_at hl 2 rfl) ?_
        obtain ⟨r5, M_5, e5, h⟩ := jh_b2 h
        refine jr_km (jr_rv (As := []) (rest := []) S hK hP jb_16 rfl (m_X6_village l X (fun q : Nat => s.heap.size ≤ q) hs M_4  r5 M_5 e5) jw_X6_village ji_X6_village jmL_22 rfl rfl ⟨(Nat.le_of_ble_eq_true rfl), (Nat.le_of_ble_eq_true rfl)⟩ rfl hl.1 rfl (Nat.le_of_ble_eq_true rfl) dL_law_257 ⟨(Nat.le_of_ble_eq_true rfl), (Nat.le_of_ble_eq_true rfl)⟩) hS (fun H locs hP hS => ?_)
        refine lv_pop hx hb dL_law_260 rfl ?_
        refine lv_goto (tgt := 1493) hx hb dL_law_261 rfl ?_
        refine lv_iinc (v := (v3_1 + 6)) (lv' := [(3, .int (v3_1 + 6)), (0, .ref b), (1, .ref (jO X 0)), (2, .ref (jO X 16))]) hx hb dL_law_1493 hl (k := 3) rfl (congrArg _ jci_6) (Nat.le_of_ble_eq_true rfl) rfl (fun ls hl => ?_)
        refine lv_goto (tgt := 18) hx hb dL_law_1496 rfl ?_
        exact ih18 M_5 _ _ (v3_1 + 6) _ h hP hS (lv_sub hl [1, 2, 3, 0] rfl)
      replace h := jh_f h c33_1
      by_cases c33_2 : ((xs (Int32.toNatClampNeg v3_1)) &&& 63) = 2
      · replace h := jh_t h c33_2
        refine lv_tableIn (off := 231) (tgt := 264) hx hb dL_law_33 (by rw [c33_2]; decide) (by rw [c33_2]; decide) (by rw [c33_2]; rfl) rfl ?_
        refine lv_aload_n hx hb dL_law_264 rfl (lv_at hl 1 rfl) ?_
        refine lv_aload_n hx hb dL_law_265 rfl (lv_at hl 0 rfl) ?_
        refine lv_iload_n hx hb dL_law_266 rfl (lv_at hl 3 rfl) ?_
        refine lv_iconst (v := 1) hx hb dL_law_267 jci_1 ?_
        refine lv_iadd hx hb dL_law_268 ?_
        obtain ⟨g269, h⟩ := jh_gd h
        refine va_sld hx hb hX hbl hbA hS g269 dL_law_269 ?_
        refine lv_aload_n hx hb dL_law_270 rfl (lv_at hl 0 rfl) ?_
        refine lv_iload_n hx hb dL_law_271 rfl (lv_at hl 3 rfl) ?_
        refine lv_iconst (v := 2) hx hb dL_law_272 jci_2 ?_
        refine lv_iadd hx hb dL_law_273 ?_
        obtain ⟨g274, h⟩ := jh_gd h
        refine va_sld hx hb hX hbl hbA hS g274 dL_law_274 ?_
        obtain ⟨r6, M_6, e6, h⟩ := jh_b2 h
        refine jr_km (jr_rv (As := [.int (xs (Int32.toNatClampNeg (v3_1 + 1))), .int (xs (Int32.toNatClampNeg (v3_1 + 2)))]) (rest := []) S hK hP jb_0 rfl (m_X5_houseOf l X (fun q : Nat => s.heap.size ≤ q) hs M_1 (xs (Int32.toNatClampNeg (v3_1 + 1))) (xs (Int32.toNatClampNeg (v3_1 + 2))) r6 M_6 e6) jw_X5_houseOf ji_X5_houseOf jmL_23 rfl rfl ⟨(Nat.le_of_ble_eq_true rfl), (Nat.le_of_ble_eq_true rfl)⟩ rfl hl.1 rfl (Nat.le_of_ble_eq_true rfl) dL_law_275 ⟨(Nat.le_of_ble_eq_true rfl), (Nat.le_of_ble_eq_true rfl)⟩) hS (fun H locs hP hS => ?_)
        refine lv_pop hx hb dL_law_278 rfl ?_
        refine lv_aload_n hx hb dL_law_279 rfl (lv_at hl 2 rfl) ?_
        refine lv_aload_n hx hb dL_law_280 rfl (lv_at hl 0 rfl) ?_
        refine lv_iload_n hx hb dL_law_281 rfl (lv_at hl 3 rfl) ?_
        refine lv_iconst (v := 1) hx hb dL_law_282 jci_1 ?_
        refine lv_iadd hx hb dL_law_283 ?_
        obtain ⟨g284, h⟩ := jh_gd h
        refine va_sld hx hb hX hbl hbA hS g284 dL_law_284 ?_
        refine lv_aload_n hx hb dL_law_285 rfl (lv_at hl 0 rfl) ?_
        refine lv_iload_n hx hb dL_law_286 rfl (lv_at hl 3 rfl) ?_
        refine lv_iconst (v := 2) hx hb dL_law_287 jci_2 ?_
        refine lv_iadd hx hb dL_law_288 ?_
        obtain ⟨g289, h⟩ := jh_gd h
        refine va_sld hx hb hX hbl hbA hS g289 dL_law_289 ?_
        obtain ⟨r7, M_7, e7, h⟩ := jh_b2 h
        refine jr_km (jr_rv (As := [.int (xs (Int32.toNatClampNeg (v3_1 + 1))), .int (xs (Int32.toNatClampNeg (v3_1 + 2)))]) (rest := []) S hK hP jb_16 rfl (m_X6_houseOf l X (fun q : Nat => s.heap.size ≤ q) hs M_6 (xs (Int32.toNatClampNeg (v3_1 + 1))) (xs (Int32.toNatClampNeg (v3_1 + 2))) r7 M_7 e7) jw_X6_houseOf ji_X6_houseOf jmL_27 rfl rfl ⟨(Nat.le_of_ble_eq_true rfl), (Nat.le_of_ble_eq_true rfl)⟩ rfl hl.1 rfl (Nat.le_of_ble_eq_true rfl) dL_law_290 ⟨(Nat.le_of_ble_eq_true rfl), (Nat.le_of_ble_eq_true rfl)⟩) hS (fun H locs hP hS => ?_)
        refine lv_pop hx hb dL_law_293 rfl ?_
        refine lv_goto (tgt := 1493) hx hb dL_law_294 rfl ?_
        refine lv_iinc (v := (v3_1 + 6)) (lv' := [(3, .int (v3_1 + 6)), (0, .ref b), (1, .ref (jO X 0)), (2, .ref (jO X 16))]) hx hb dL_law_1493 hl (k := 3) rfl (congrArg _ jci_6) (Nat.le_of_ble_eq_true rfl) rfl (fun ls hl => ?_)
        refine lv_goto (tgt := 18) hx hb dL_law_1496 rfl ?_
        exact ih18 M_7 _ _ (v3_1 + 6) _ h hP hS (lv_sub hl [1, 2, 3, 0] rfl)
      replace h := jh_f h c33_2
      by_cases c33_3 : ((xs (Int32.toNatClampNeg v3_1)) &&& 63) = 3
      · replace h := jh_t h c33_3
        refine lv_tableIn (off := 264) (tgt := 297) hx hb dL_law_33 (by rw [c33_3]; decide) (by rw [c33_3]; decide) (by rw [c33_3]; rfl) rfl ?_
        refine lv_aload_n hx hb dL_law_297 rfl (lv_at hl 1 rfl) ?_
        refine lv_aload_n hx hb dL_law_298 rfl (lv_at hl 0 rfl) ?_
        refine lv_iload_n hx hb dL_law_299 rfl (lv_at hl 3 rfl) ?_
        refine lv_iconst (v := 1) hx hb dL_law_300 jci_1 ?_
        refine lv_iadd hx hb dL_law_301 ?_
        obtain ⟨g302, h⟩ := jh_gd h
        refine va_sld hx hb hX hbl hbA hS g302 dL_law_302 ?_
        refine lv_aload_n hx hb dL_law_303 rfl (lv_at hl 0 rfl) ?_
        refine lv_iload_n hx hb dL_law_304 rfl (lv_at hl 3 rfl) ?_
        refine lv_iconst (v := 2) hx hb dL_law_305 jci_2 ?_
        refine lv_iadd hx hb dL_law_306 ?_
        obtain ⟨g307, h⟩ := jh_gd h
        refine va_sld hx hb hX hbl hbA hS g307 dL_law_307 ?_
        obtain ⟨r8, M_8, e8, h⟩ := jh_b2 h
        refine jr_km (jr_rv (As := [.int (xs (Int32.toNatClampNeg (v3_1 + 1))), .int (xs (Int32.toNatClampNeg (v3_1 + 2)))]) (rest := []) S hK hP jb_0 rfl (m_X5_walkerOf l X (fun q : Nat => s.heap.size ≤ q) hs M_1 (xs (Int32.toNatClampNeg (v3_1 + 1))) (xs (Int32.toNatClampNeg (v3_1 + 2))) r8 M_8 e8) jw_X5_walkerOf ji_X5_walkerOf jmL_28 rfl rfl ⟨(Nat.le_of_ble_eq_true rfl), (Nat.le_of_ble_eq_true rfl)⟩ rfl hl.1 rfl (Nat.le_of_ble_eq_true rfl) dL_law_308 ⟨(Nat.le_of_ble_eq_true rfl), (Nat.le_of_ble_eq_true rfl)⟩) hS (fun H locs hP hS => ?_)
        refine lv_pop hx hb dL_law_311 rfl ?_
        refine lv_aload_n hx hb dL_law_312 rfl (lv_at hl 2 rfl) ?_
        refine lv_aload_n hx hb dL_law_313 rfl (lv_at hl 0 rfl) ?_
        refine lv_iload_n hx hb dL_law_314 rfl (lv_at hl 3 rfl) ?_
        refine lv_iconst (v := 1) hx hb dL_law_315 jci_1 ?_
        refine lv_iadd hx hb dL_law_316 ?_
        obtain ⟨g317, h⟩ := jh_gd h
        refine va_sld hx hb hX hbl hbA hS g317 dL_law_317 ?_
        refine lv_aload_n hx hb dL_law_318 rfl (lv_at hl 0 rfl) ?_
        refine lv_iload_n hx hb dL_law_319 rfl (lv_at hl 3 rfl) ?_
        refine lv_iconst (v := 2) hx hb dL_law_320 jci_2 ?_
        refine lv_iadd hx hb dL_law_321 ?_
        obtain ⟨g322, h⟩ := jh_gd h
        refine va_sld hx hb hX hbl hbA hS g322 dL_law_322 ?_
        obtain ⟨r9, M_9, e9, h⟩ := jh_b2 h
        refine jr_km (jr_rv (As := [.int (xs (Int32.toNatClampNeg (v3_1 + 1))), .int (xs (Int32.toNatClampNeg (v3_1 + 2)))]) (rest := []) S hK hP jb_16 rfl (m_X6_walkerOf l X (fun q : Nat => s.heap.size ≤ q) hs M_8 (xs (Int32.toNatClampNeg (v3_1 + 1))) (xs (Int32.toNatClampNeg (v3_1 + 2))) r9 M_9 e9) jw_X6_walkerOf ji_X6_walkerOf jmL_31 rfl rfl ⟨(Nat.le_of_ble_eq_true rfl), (Nat.le_of_ble_eq_true rfl)⟩ rfl hl.1 rfl (Nat.le_of_ble_eq_true rfl) dL_law_323 ⟨(Nat.le_of_ble_eq_true rfl), (Nat.le_of_ble_eq_true rfl)⟩) hS (fun H locs hP hS => ?_)
        refine lv_pop hx hb dL_law_326 rfl ?_
        refine lv_goto (tgt := 1493) hx hb dL_law_327 rfl ?_
        refine lv_iinc (v := (v3_1 + 6)) (lv' := [(3, .int (v3_1 + 6)), (0, .ref b), (1, .ref (jO X 0)), (2, .ref (jO X 16))]) hx hb dL_law_1493 hl (k := 3) rfl (congrArg _ jci_6) (Nat.le_of_ble_eq_true rfl) rfl (fun ls hl => ?_)
        refine lv_goto (tgt := 18) hx hb dL_law_1496 rfl ?_
        exact ih18 M_9 _ _ (v3_1 + 6) _ h hP hS (lv_sub hl [1, 2, 3, 0] rfl)
      replace h := jh_f h c33_3
      by_cases c33_4 : ((xs (Int32.toNatClampNeg v3_1)) &&& 63) = 4
      · replace h := jh_t h c33_4
        refine lv_tableIn (off := 297) (tgt := 330) hx hb dL_law_33 (by rw [c33_4]; decide) (by rw [c33_4]; decide) (by rw [c33_4]; rfl) rfl ?_
        refine lv_aload_n hx hb dL_law_330 rfl (lv_at hl 1 rfl) ?_
        refine lv_aload_n hx hb dL_law_331 rfl (lv_at hl 0 rfl) ?_
        refine lv_iload_n hx hb dL_law_332 rfl (lv_at hl 3 rfl) ?_
        refine lv_iconst (v := 1) hx hb dL_law_333 jci_1 ?_
        refine lv_iadd hx hb dL_law_334 ?_
        obtain ⟨g335, h⟩ := jh_gd h
        refine va_sld hx hb hX hbl hbA hS g335 dL_law_335 ?_
        refine lv_aload_n hx hb dL_law_336 rfl (lv_at hl 0 rfl) ?_
        refine lv_iload_n hx hb dL_law_337 rfl (lv_at hl 3 rfl) ?_
        refine lv_iconst (v := 2) hx hb dL_law_338 jci_2 ?_
        refine lv_iadd hx hb dL_law_339 ?_
        obtain ⟨g340, h⟩ := jh_gd h
        refine va_sld hx hb hX hbl hbA hS g340 dL_law_340 ?_
        obtain ⟨r10, M_10, e10, h⟩ := jh_b2 h
        refine jr_km (jr_rv (As := [.int (xs (Int32.toNatClampNeg (v3_1 + 1))), .int (xs (Int32.toNatClampNeg (v3_1 + 2)))]) (rest := []) S hK hP jb_0 rfl (m_X5_age l X (fun q : Nat => s.heap.size ≤ q) hs M_1 (xs (Int32.toNatClampNeg (v3_1 + 1))) (xs (Int32.toNatClampNeg (v3_1 + 2))) r10 M_10 e10) jw_X5_age ji_X5_age jmL_32 rfl rfl ⟨(Nat.le_of_ble_eq_true rfl), (Nat.le_of_ble_eq_true rfl)⟩ rfl hl.1 rfl (Nat.le_of_ble_eq_true rfl) dL_law_341 ⟨(Nat.le_of_ble_eq_true rfl), (Nat.le_of_ble_eq_true rfl)⟩) hS (fun H locs hP hS => ?_)
        refine lv_pop hx hb dL_law_344 rfl ?_
        refine lv_aload_n hx hb dL_law_345 rfl (lv_at hl 2 rfl) ?_
        refine lv_aload_n hx hb dL_law_346 rfl (lv_at hl 0 rfl) ?_
        refine lv_iload_n hx hb dL_law_347 rfl (lv_at hl 3 rfl) ?_
        refine lv_iconst (v := 1) hx hb dL_law_348 jci_1 ?_
        refine lv_iadd hx hb dL_law_349 ?_
        obtain ⟨g350, h⟩ := jh_gd h
        refine va_sld hx hb hX hbl hbA hS g350 dL_law_350 ?_
        refine lv_aload_n hx hb dL_law_351 rfl (lv_at hl 0 rfl) ?_
        refine lv_iload_n hx hb dL_law_352 rfl (lv_at hl 3 rfl) ?_
        refine lv_iconst (v := 2) hx hb dL_law_353 jci_2 ?_
        refine lv_iadd hx hb dL_law_354 ?_
        obtain ⟨g355, h⟩ := jh_gd h
        refine va_sld hx hb hX hbl hbA hS g355 dL_law_355 ?_
        obtain ⟨r11, M_11, e11, h⟩ := jh_b2 h
        refine jr_km (jr_rv (As := [.int (xs (Int32.toNatClampNeg (v3_1 + 1))), .int (xs (Int32.toNatClampNeg (v3_1 + 2)))]) (rest := []) S hK hP jb_16 rfl (m_X6_age l X (fun q : Nat => s.heap.size ≤ q) hs M_10 (xs (Int32.toNatClampNeg (v3_1 + 1))) (xs (Int32.toNatClampNeg (v3_1 + 2))) r11 M_11 e11) jw_X6_age ji_X6_age jmL_35 rfl rfl ⟨(Nat.le_of_ble_eq_true rfl), (Nat.le_of_ble_eq_true rfl)⟩ rfl hl.1 rfl (Nat.le_of_ble_eq_true rfl) dL_law_356 ⟨(Nat.le_of_ble_eq_true rfl), (Nat.le_of_ble_eq_true rfl)⟩) hS (fun H locs hP hS => ?_)
        refine lv_pop hx hb dL_law_359 rfl ?_
        refine lv_goto (tgt := 1493) hx hb dL_law_360 rfl ?_
        refine lv_iinc (v := (v3_1 + 6)) (lv' := [(3, .int (v3_1 + 6)), (0, .ref b), (1, .ref (jO X 0)), (2, .ref (jO X 16))]) hx hb dL_law_1493 hl (k := 3) rfl (congrArg _ jci_6) (Nat.le_of_ble_eq_true rfl) rfl (fun ls hl => ?_)
        refine lv_goto (tgt := 18) hx hb dL_law_1496 rfl ?_
        exact ih18 M_11 _ _ (v3_1 + 6) _ h hP hS (lv_sub hl [1, 2, 3, 0] rfl)
      replace h := jh_f h c33_4
      by_cases c33_5 : ((xs (Int32.toNatClampNeg v3_1)) &&& 63) = 5
      · replace h := jh_t h c33_5
        refine lv_tableIn (off := 330) (tgt := 363) hx hb dL_law_33 (by rw [c33_5]; decide) (by rw [c33_5]; decide) (by rw [c33_5]; rfl) rfl ?_
        refine lv_aload_n hx hb dL_law_363 rfl (lv_at hl 1 rfl) ?_
        refine lv_aload_n hx hb dL_law_364 rfl (lv_at hl 0 rfl) ?_
        refine lv_iload_n hx hb dL_law_365 rfl (lv_at hl 3 rfl) ?_
        refine lv_iconst (v := 1) hx hb dL_law_366 jci_1 ?_
        refine lv_iadd hx hb dL_law_367 ?_
        obtain ⟨g368, h⟩ := jh_gd h
        refine va_sld hx hb hX hbl hbA hS g368 dL_law_368 ?_
        refine lv_aload_n hx hb dL_law_369 rfl (lv_at hl 0 rfl) ?_
        refine lv_iload_n hx hb dL_law_370 rfl (lv_at hl 3 rfl) ?_
        refine lv_iconst (v := 2) hx hb dL_law_371 jci_2 ?_
        refine lv_iadd hx hb dL_law_372 ?_
        obtain ⟨g373, h⟩ := jh_gd h
        refine va_sld hx hb hX hbl hbA hS g373 dL_law_373 ?_
        refine lv_aload_n hx hb dL_law_374 rfl (lv_at hl 0 rfl) ?_
        refine lv_iload_n hx hb dL_law_375 rfl (lv_at hl 3 rfl) ?_
        refine lv_iconst (v := 3) hx hb dL_law_376 jci_3 ?_
        refine lv_iadd hx hb dL_law_377 ?_
        obtain ⟨g378, h⟩ := jh_gd h
        refine va_sld hx hb hX hbl hbA hS g378 dL_law_378 ?_
        obtain ⟨r12, M_12, e12, h⟩ := jh_b2 h
        refine jr_km (jr_rv (As := [.int (xs (Int32.toNatClampNeg (v3_1 + 1))), .int (xs (Int32.toNatClampNeg (v3_1 + 2))), .int (xs (Int32.toNatClampNeg (v3_1 + 3)))]) (rest := []) S hK hP jb_0 rfl (m_X5_house l X (fun q : Nat => s.heap.size ≤ q) hs M_1 (xs (Int32.toNatClampNeg (v3_1 + 1))) (xs (Int32.toNatClampNeg (v3_1 + 2))) (xs (Int32.toNatClampNeg (v3_1 + 3))) r12 M_12 e12) jw_X5_house ji_X5_house jmL_36 rfl rfl ⟨(Nat.le_of_ble_eq_true rfl), (Nat.le_of_ble_eq_true rfl)⟩ rfl hl.1 rfl (Nat.le_of_ble_eq_true rfl) dL_law_379 ⟨(Nat.le_of_ble_eq_true rfl), (Nat.le_of_ble_eq_true rfl)⟩) hS (fun H locs hP hS => ?_)
        refine lv_pop hx hb dL_law_382 rfl ?_
        refine lv_aload_n hx hb dL_law_383 rfl (lv_at hl 2 rfl) ?_
        refine lv_aload_n hx hb dL_law_384 rfl (lv_at hl 0 rfl) ?_
        refine lv_iload_n hx hb dL_law_385 rfl (lv_at hl 3 rfl) ?_
        refine lv_iconst (v := 1) hx hb dL_law_386 jci_1 ?_
        refine lv_iadd hx hb dL_law_387 ?_
        obtain ⟨g388, h⟩ := jh_gd h
        refine va_sld hx hb hX hbl hbA hS g388 dL_law_388 ?_
        refine lv_aload_n hx hb dL_law_389 rfl (lv_at hl 0 rfl) ?_
        refine lv_iload_n hx hb dL_law_390 rfl (lv_at hl 3 rfl) ?_
        refine lv_iconst (v := 2) hx hb dL_law_391 jci_2 ?_
        refine lv_iadd hx hb dL_law_392 ?_
        obtain ⟨g393, h⟩ := jh_gd h
        refine va_sld hx hb hX hbl hbA hS g393 dL_law_393 ?_
        refine lv_aload_n hx hb dL_law_394 rfl (lv_at hl 0 rfl) ?_
        refine lv_iload_n hx hb dL_law_395 rfl (lv_at hl 3 rfl) ?_
        refine lv_iconst (v := 3) hx hb dL_law_396 jci_3 ?_
        refine lv_iadd hx hb dL_law_397 ?_
        obtain ⟨g398, h⟩ := jh_gd h
        refine va_sld hx hb hX hbl hbA hS g398 dL_law_398 ?_
        obtain ⟨r13, M_13, e13, h⟩ := jh_b2 h
        refine jr_km (jr_rv (As := [.int (xs (Int32.toNatClampNeg (v3_1 + 1))), .int (xs (Int32.toNatClampNeg (v3_1 + 2))), .int (xs (Int32.toNatClampNeg (v3_1 + 3)))]) (rest := []) S hK hP jb_16 rfl (m_X6_house l X (fun q : Nat => s.heap.size ≤ q) hs M_12 (xs (Int32.toNatClampNeg (v3_1 + 1))) (xs (Int32.toNatClampNeg (v3_1 + 2))) (xs (Int32.toNatClampNeg (v3_1 + 3))) r13 M_13 e13) jw_X6_house ji_X6_house jmL_40 rfl rfl ⟨(Nat.le_of_ble_eq_true rfl), (Nat.le_of_ble_eq_true rfl)⟩ rfl hl.1 rfl (Nat.le_of_ble_eq_true rfl) dL_law_399 ⟨(Nat.le_of_ble_eq_true rfl), (Nat.le_of_ble_eq_true rfl)⟩) hS (fun H locs hP hS => ?_)
        refine lv_pop hx hb dL_law_402 rfl ?_
        refine lv_goto (tgt := 1493) hx hb dL_law_403 rfl ?_
        refine lv_iinc (v := (v3_1 + 6)) (lv' := [(3, .int (v3_1 + 6)), (0, .ref b), (1, .ref (jO X 0)), (2, .ref (jO X 16))]) hx hb dL_law_1493 hl (k := 3) rfl (congrArg _ jci_6) (Nat.le_of_ble_eq_true rfl) rfl (fun ls hl => ?_)
        refine lv_goto (tgt := 18) hx hb dL_law_1496 rfl ?_
        exact ih18 M_13 _ _ (v3_1 + 6) _ h hP hS (lv_sub hl [1, 2, 3, 0] rfl)
      replace h := jh_f h c33_5
      by_cases c33_6 : ((xs (Int32.toNatClampNeg v3_1)) &&& 63) = 6
      · replace h := jh_t h c33_6
        refine lv_tableIn (off := 373) (tgt := 406) hx hb dL_law_33 (by rw [c33_6]; decide) (by rw [c33_6]; decide) (by rw [c33_6]; rfl) rfl ?_
        refine lv_aload_n hx hb dL_law_406 rfl (lv_at hl 1 rfl) ?_
        refine lv_aload_n hx hb dL_law_407 rfl (lv_at hl 0 rfl) ?_
        refine lv_iload_n hx hb dL_law_408 rfl (lv_at hl 3 rfl) ?_
        refine lv_iconst (v := 1) hx hb dL_law_409 jci_1 ?_
        refine lv_iadd hx hb dL_law_410 ?_
        obtain ⟨g411, h⟩ := jh_gd h
        refine va_sld hx hb hX hbl hbA hS g411 dL_law_411 ?_
        refine lv_aload_n hx hb dL_law_412 rfl (lv_at hl 0 rfl) ?_
        refine lv_iload_n hx hb dL_law_413 rfl (lv_at hl 3 rfl) ?_
        refine lv_iconst (v := 2) hx hb dL_law_414 jci_2 ?_
        refine lv_iadd hx hb dL_law_415 ?_
        obtain ⟨g416, h⟩ := jh_gd h
        refine va_sld hx hb hX hbl hbA hS g416 dL_law_416 ?_
        refine lv_aload_n hx hb dL_law_417 rfl (lv_at hl 0 rfl) ?_
        refine lv_iload_n hx hb dL_law_418 rfl (lv_at hl 3 rfl) ?_
        refine lv_iconst (v := 3) hx hb dL_law_419 jci_3 ?_
        refine lv_iadd hx hb dL_law_420 ?_
        obtain ⟨g421, h⟩ := jh_gd h
        refine va_sld hx hb hX hbl hbA hS g421 dL_law_421 ?_
        obtain ⟨r14, M_14, e14, h⟩ := jh_b2 h
        refine jr_km (jr_rv (As := [.int (xs (Int32.toNatClampNeg (v3_1 + 1))), .int (xs (Int32.toNatClampNeg (v3_1 + 2))), .int (xs (Int32.toNatClampNeg (v3_1 + 3)))]) (rest := []) S hK hP jb_0 rfl (m_X5_walker l X (fun q : Nat => s.heap.size ≤ q) hs M_1 (xs (Int32.toNatClampNeg (v3_1 + 1))) (xs (Int32.toNatClampNeg (v3_1 + 2))) (xs (Int32.toNatClampNeg (v3_1 + 3))) r14 M_14 e14) jw_X5_walker ji_X5_walker jmL_41 rfl rfl ⟨(Nat.le_of_ble_eq_true rfl), (Nat.le_of_ble_eq_true rfl)⟩ rfl hl.1 rfl (Nat.le_of_ble_eq_true rfl) dL_law_422 ⟨(Nat.le_of_ble_eq_true rfl), (Nat.le_of_ble_eq_true rfl)⟩) hS (fun H locs hP hS => ?_)
        refine lv_pop hx hb dL_law_425 rfl ?_
        refine lv_aload_n hx hb dL_law_426 rfl (lv_at hl 2 rfl) ?_
        refine lv_aload_n hx hb dL_law_427 rfl (lv_at hl 0 rfl) ?_
        refine lv_iload_n hx hb dL_law_428 rfl (lv_at hl 3 rfl) ?_
        refine lv_iconst (v := 1) hx hb dL_law_429 jci_1 ?_
        refine lv_iadd hx hb dL_law_430 ?_
        obtain ⟨g431, h⟩ := jh_gd h
        refine va_sld hx hb hX hbl hbA hS g431 dL_law_431 ?_
        refine lv_aload_n hx hb dL_law_432 rfl (lv_at hl 0 rfl) ?_
        refine lv_iload_n hx hb dL_law_433 rfl (lv_at hl 3 rfl) ?_
        refine lv_iconst (v := 2) hx hb dL_law_434 jci_2 ?_
        refine lv_iadd hx hb dL_law_435 ?_
        obtain ⟨g436, h⟩ := jh_gd h
        refine va_sld hx hb hX hbl hbA hS g436 dL_law_436 ?_
        refine lv_aload_n hx hb dL_law_437 rfl (lv_at hl 0 rfl) ?_
        refine lv_iload_n hx hb dL_law_438 rfl (lv_at hl 3 rfl) ?_
        refine lv_iconst (v := 3) hx hb dL_law_439 jci_3 ?_
        refine lv_iadd hx hb dL_law_440 ?_
        obtain ⟨g441, h⟩ := jh_gd h
        refine va_sld hx hb hX hbl hbA hS g441 dL_law_441 ?_
        obtain ⟨r15, M_15, e15, h⟩ := jh_b2 h
        refine jr_km (jr_rv (As := [.int (xs (Int32.toNatClampNeg (v3_1 + 1))), .int (xs (Int32.toNatClampNeg (v3_1 + 2))), .int (xs (Int32.toNatClampNeg (v3_1 + 3)))]) (rest := []) S hK hP jb_16 rfl (m_X6_walker l X (fun q : Nat => s.heap.size ≤ q) hs M_14 (xs (Int32.toNatClampNeg (v3_1 + 1))) (xs (Int32.toNatClampNeg (v3_1 + 2))) (xs (Int32.toNatClampNeg (v3_1 + 3))) r15 M_15 e15) jw_X6_walker ji_X6_walker jmL_44 rfl rfl ⟨(Nat.le_of_ble_eq_true rfl), (Nat.le_of_ble_eq_true rfl)⟩ rfl hl.1 rfl (Nat.le_of_ble_eq_true rfl) dL_law_442 ⟨(Nat.le_of_ble_eq_true rfl), (Nat.le_of_ble_eq_true rfl)⟩) hS (fun H locs hP hS => ?_)
        refine lv_pop hx hb dL_law_445 rfl ?_
        refine lv_goto (tgt := 1493) hx hb dL_law_446 rfl ?_
        refine lv_iinc (v := (v3_1 + 6)) (lv' := [(3, .int (v3_1 + 6)), (0, .ref b), (1, .ref (jO X 0)), (2, .ref (jO X 16))]) hx hb dL_law_1493 hl (k := 3) rfl (congrArg _ jci_6) (Nat.le_of_ble_eq_true rfl) rfl (fun ls hl => ?_)
        refine lv_goto (tgt := 18) hx hb dL_law_1496 rfl ?_
        exact ih18 M_15 _ _ (v3_1 + 6) _ h hP hS (lv_sub hl [1, 2, 3, 0] rfl)
      replace h := jh_f h c33_6
      by_cases c33_7 : ((xs (Int32.toNatClampNeg v3_1)) &&& 63) = 7
      · replace h := jh_t h c33_7
        refine lv_tableIn (off := 416) (tgt := 449) hx hb dL_law_33 (by rw [c33_7]; decide) (by rw [c33_7]; decide) (by rw [c33_7]; rfl) rfl ?_
        refine lv_aload_n hx hb dL_law_449 rfl (lv_at hl 1 rfl) ?_
        refine lv_aload_n hx hb dL_law_450 rfl (lv_at hl 0 rfl) ?_
        refine lv_iload_n hx hb dL_law_451 rfl (lv_at hl 3 rfl) ?_
        refine lv_iconst (v := 1) hx hb dL_law_452 jci_1 ?_
        refine lv_iadd hx hb dL_law_453 ?_
        obtain ⟨g454, h⟩ := jh_gd h
        refine va_sld hx hb hX hbl hbA hS g454 dL_law_454 ?_
        obtain ⟨r16, M_16, e16, h⟩ := jh_b2 h
        refine jr_km (jr_rv (As := [.int (xs (Int32.toNatClampNeg (v3_1 + 1)))]) (rest := []) S hK hP jb_0 rfl (m_X5_lights l X (fun q : Nat => s.heap.size ≤ q) hs M_1 (xs (Int32.toNatClampNeg (v3_1 + 1))) r16 M_16 e16) jw_X5_lights ji_X5_lights jmL_45 rfl rfl ⟨(Nat.le_of_ble_eq_true rfl), (Nat.le_of_ble_eq_true rfl)⟩ rfl hl.1 rfl (Nat.le_of_ble_eq_true rfl) dL_law_455 ⟨(Nat.le_of_ble_eq_true rfl), (Nat.le_of_ble_eq_true rfl)⟩) hS (fun H locs hP hS => ?_)
        refine lv_pop hx hb dL_law_458 rfl ?_
        refine lv_aload_n hx hb dL_law_459 rfl (lv_at hl 2 rfl) ?_
        refine lv_aload_n hx hb dL_law_460 rfl (lv_at hl 0 rfl) ?_
        refine lv_iload_n hx hb dL_law_461 rfl (lv_at hl 3 rfl) ?_
        refine lv_iconst (v := 1) hx hb dL_law_462 jci_1 ?_
        refine lv_iadd hx hb dL_law_463 ?_
        obtain ⟨g464, h⟩ := jh_gd h
        refine va_sld hx hb hX hbl hbA hS g464 dL_law_464 ?_
        obtain ⟨r17, M_17, e17, h⟩ := jh_b2 h
        refine jr_km (jr_rv (As := [.int (xs (Int32.toNatClampNeg (v3_1 + 1)))]) (rest := []) S hK hP jb_16 rfl (m_X6_lights l X (fun q : Nat => s.heap.size ≤ q) hs M_16 (xs (Int32.toNatClampNeg (v3_1 + 1))) r17 M_17 e17) jw_X6_lights ji_X6_lights jmL_48 rfl rfl ⟨(Nat.le_of_ble_eq_true rfl), (Nat.le_of_ble_eq_true rfl)⟩ rfl hl.1 rfl (Nat.le_of_ble_eq_true rfl) dL_law_465 ⟨(Nat.le_of_ble_eq_true rfl), (Nat.le_of_ble_eq_true rfl)⟩) hS (fun H locs hP hS => ?_)
        refine lv_pop hx hb dL_law_468 rfl ?_
        refine lv_goto (tgt := 1493) hx hb dL_law_469 rfl ?_
        refine lv_iinc (v := (v3_1 + 6)) (lv' := [(3, .int (v3_1 + 6)), (0, .ref b), (1, .ref (jO X 0)), (2, .ref (jO X 16))]) hx hb dL_law_1493 hl (k := 3) rfl (congrArg _ jci_6) (Nat.le_of_ble_eq_true rfl) rfl (fun ls hl => ?_)
        refine lv_goto (tgt := 18) hx hb dL_law_1496 rfl ?_
        exact ih18 M_17 _ _ (v3_1 + 6) _ h hP hS (lv_sub hl [1, 2, 3, 0] rfl)
      replace h := jh_f h c33_7
      by_cases c33_8 : ((xs (Int32.toNatClampNeg v3_1)) &&& 63) = 8
      · replace h := jh_t h c33_8
        refine lv_tableIn (off := 439) (tgt := 472) hx hb dL_law_33 (by rw [c33_8]; decide) (by rw [c33_8]; decide) (by rw [c33_8]; rfl) rfl ?_
        refine lv_aload_n hx hb dL_law_472 rfl (lv_at hl 1 rfl) ?_
        refine lv_aload_n hx hb dL_law_473 rfl (lv_at hl 0 rfl) ?_
        refine lv_iload_n hx hb dL_law_474 rfl (lv_at hl 3 rfl) ?_
        refine lv_iconst (v := 1) hx hb dL_law_475 jci_1 ?_
        refine lv_iadd hx hb dL_law_476 ?_
        obtain ⟨g477, h⟩ := jh_gd h
        refine va_sld hx hb hX hbl hbA hS g477 dL_law_477 ?_
        refine lv_aload_n hx hb dL_law_478 rfl (lv_at hl 0 rfl) ?_
        refine lv_iload_n hx hb dL_law_479 rfl (lv_at hl 3 rfl) ?_
        refine lv_iconst (v := 2) hx hb dL_law_480 jci_2 ?_
        refine lv_iadd hx hb dL_law_481 ?_
        obtain ⟨g482, h⟩ := jh_gd h
        refine va_sld hx hb hX hbl hbA hS g482 dL_law_482 ?_
        obtain ⟨r18, M_18, e18, h⟩ := jh_b2 h
        refine jr_km (jr_rv (As := [.int (xs (Int32.toNatClampNeg (v3_1 + 1))), .int (xs (Int32.toNatClampNeg (v3_1 + 2)))]) (rest := []) S hK hP jb_0 rfl (m_X5_goals l X (fun q : Nat => s.heap.size ≤ q) hs M_1 (xs (Int32.toNatClampNeg (v3_1 + 1))) (xs (Int32.toNatClampNeg (v3_1 + 2))) r18 M_18 e18) jw_X5_goals ji_X5_goals jmL_49 rfl rfl ⟨(Nat.le_of_ble_eq_true rfl), (Nat.le_of_ble_eq_true rfl)⟩ rfl hl.1 rfl (Nat.le_of_ble_eq_true rfl) dL_law_483 ⟨(Nat.le_of_ble_eq_true rfl), (Nat.le_of_ble_eq_true rfl)⟩) hS (fun H locs hP hS => ?_)
        refine lv_pop hx hb dL_law_486 rfl ?_
        refine lv_aload_n hx hb dL_law_487 rfl (lv_at hl 2 rfl) ?_
        refine lv_aload_n hx hb dL_law_488 rfl (lv_at hl 0 rfl) ?_
        refine lv_iload_n hx hb dL_law_489 rfl (lv_at hl 3 rfl) ?_
        refine lv_iconst (v := 1) hx hb dL_law_490 jci_1 ?_
        refine lv_iadd hx hb dL_law_491 ?_
        obtain ⟨g492, h⟩ := jh_gd h
        refine va_sld hx hb hX hbl hbA hS g492 dL_law_492 ?_
        refine lv_aload_n hx hb dL_law_493 rfl (lv_at hl 0 rfl) ?_
        refine lv_iload_n hx hb dL_law_494 rfl (lv_at hl 3 rfl) ?_
        refine lv_iconst (v := 2) hx hb dL_law_495 jci_2 ?_
        refine lv_iadd hx hb dL_law_496 ?_
        obtain ⟨g497, h⟩ := jh_gd h
        refine va_sld hx hb hX hbl hbA hS g497 dL_law_497 ?_
        obtain ⟨r19, M_19, e19, h⟩ := jh_b2 h
        refine jr_km (jr_rv (As := [.int (xs (Int32.toNatClampNeg (v3_1 + 1))), .int (xs (Int32.toNatClampNeg (v3_1 + 2)))]) (rest := []) S hK hP jb_16 rfl (m_X6_goals l X (fun q : Nat => s.heap.size ≤ q) hs M_18 (xs (Int32.toNatClampNeg (v3_1 + 1))) (xs (Int32.toNatClampNeg (v3_1 + 2))) r19 M_19 e19) jw_X6_goals ji_X6_goals jmL_52 rfl rfl ⟨(Nat.le_of_ble_eq_true rfl), (Nat.le_of_ble_eq_true rfl)⟩ rfl hl.1 rfl (Nat.le_of_ble_eq_true rfl) dL_law_498 ⟨(Nat.le_of_ble_eq_true rfl), (Nat.le_of_ble_eq_true rfl)⟩) hS (fun H locs hP hS => ?_)
        refine lv_pop hx hb dL_law_501 rfl ?_
        refine lv_goto (tgt := 1493) hx hb dL_law_502 rfl ?_
        refine lv_iinc (v := (v3_1 + 6)) (lv' := [(3, .int (v3_1 + 6)), (0, .ref b), (1, .ref (jO X 0)), (2, .ref (jO X 16))]) hx hb dL_law_1493 hl (k := 3) rfl (congrArg _ jci_6) (Nat.le_of_ble_eq_true rfl) rfl (fun ls hl => ?_)
        refine lv_goto (tgt := 18) hx hb dL_law_1496 rfl ?_
        exact ih18 M_19 _ _ (v3_1 + 6) _ h hP hS (lv_sub hl [1, 2, 3, 0] rfl)
      replace h := jh_f h c33_8
      by_cases c33_9 : ((xs (Int32.toNatClampNeg v3_1)) &&& 63) = 9
      · replace h := jh_t h c33_9
        refine lv_tableIn (off := 472) (tgt := 505) hx hb dL_law_33 (by rw [c33_9]; decide) (by rw [c33_9]; decide) (by rw [c33_9]; rfl) rfl ?_
        refine lv_aload_n hx hb dL_law_505 rfl (lv_at hl 1 rfl) ?_
        refine lv_aload_n hx hb dL_law_506 rfl (lv_at hl 0 rfl) ?_
        refine lv_iload_n hx hb dL_law_507 rfl (lv_at hl 3 rfl) ?_
        refine lv_iconst (v := 1) hx hb dL_law_508 jci_1 ?_
        refine lv_iadd hx hb dL_law_509 ?_
        obtain ⟨g510, h⟩ := jh_gd h
        refine va_sld hx hb hX hbl hbA hS g510 dL_law_510 ?_
        refine lv_aload_n hx hb dL_law_511 rfl (lv_at hl 0 rfl) ?_
        refine lv_iload_n hx hb dL_law_512 rfl (lv_at hl 3 rfl) ?_
        refine lv_iconst (v := 2) hx hb dL_law_513 jci_2 ?_
        refine lv_iadd hx hb dL_law_514 ?_
        obtain ⟨g515, h⟩ := jh_gd h
        refine va_sld hx hb hX hbl hbA hS g515 dL_law_515 ?_
        obtain ⟨r20, M_20, e20, h⟩ := jh_b2 h
        refine jr_km (jr_rv (As := [.int (xs (Int32.toNatClampNeg (v3_1 + 1))), .int (xs (Int32.toNatClampNeg (v3_1 + 2)))]) (rest := []) S hK hP jb_0 rfl (m_X5_visits l X (fun q : Nat => s.heap.size ≤ q) hs M_1 (xs (Int32.toNatClampNeg (v3_1 + 1))) (xs (Int32.toNatClampNeg (v3_1 + 2))) r20 M_20 e20) jw_X5_visits ji_X5_visits jmL_53 rfl rfl ⟨(Nat.le_of_ble_eq_true rfl), (Nat.le_of_ble_eq_true rfl)⟩ rfl hl.1 rfl (Nat.le_of_ble_eq_true rfl) dL_law_516 ⟨(Nat.le_of_ble_eq_true rfl), (Nat.le_of_ble_eq_true rfl)⟩) hS (fun H locs hP hS => ?_)
        refine lv_pop hx hb dL_law_519 rfl ?_
        refine lv_aload_n hx hb dL_law_520 rfl (lv_at hl 2 rfl) ?_
        refine lv_aload_n hx hb dL_law_521 rfl (lv_at hl 0 rfl) ?_
        refine lv_iload_n hx hb dL_law_522 rfl (lv_at hl 3 rfl) ?_
        refine lv_iconst (v := 1) hx hb dL_law_523 jci_1 ?_
        refine lv_iadd hx hb dL_law_524 ?_
        obtain ⟨g525, h⟩ := jh_gd h
        refine va_sld hx hb hX hbl hbA hS g525 dL_law_525 ?_
        refine lv_aload_n hx hb dL_law_526 rfl (lv_at hl 0 rfl) ?_
        refine lv_iload_n hx hb dL_law_527 rfl (lv_at hl 3 rfl) ?_
        refine lv_iconst (v := 2) hx hb dL_law_528 jci_2 ?_
        refine lv_iadd hx hb dL_law_529 ?_
        obtain ⟨g530, h⟩ := jh_gd h
        refine va_sld hx hb hX hbl hbA hS g530 dL_law_530 ?_
        obtain ⟨r21, M_21, e21, h⟩ := jh_b2 h
        refine jr_km (jr_rv (As := [.int (xs (Int32.toNatClampNeg (v3_1 + 1))), .int (xs (Int32.toNatClampNeg (v3_1 + 2)))]) (rest := []) S hK hP jb_16 rfl (m_X6_visits l X (fun q : Nat => s.heap.size ≤ q) hs M_20 (xs (Int32.toNatClampNeg (v3_1 + 1))) (xs (Int32.toNatClampNeg (v3_1 + 2))) r21 M_21 e21) jw_X6_visits ji_X6_visits jmL_56 rfl rfl ⟨(Nat.le_of_ble_eq_true rfl), (Nat.le_of_ble_eq_true rfl)⟩ rfl hl.1 rfl (Nat.le_of_ble_eq_true rfl) dL_law_531 ⟨(Nat.le_of_ble_eq_true rfl), (Nat.le_of_ble_eq_true rfl)⟩) hS (fun H locs hP hS => ?_)
        refine lv_pop hx hb dL_law_534 rfl ?_
        refine lv_goto (tgt := 1493) hx hb dL_law_535 rfl ?_
        refine lv_iinc (v := (v3_1 + 6)) (lv' := [(3, .int (v3_1 + 6)), (0, .ref b), (1, .ref (jO X 0)), (2, .ref (jO X 16))]) hx hb dL_law_1493 hl (k := 3) rfl (congrArg _ jci_6) (Nat.le_of_ble_eq_true rfl) rfl (fun ls hl => ?_)
        refine lv_goto (tgt := 18) hx hb dL_law_1496 rfl ?_
        exact ih18 M_21 _ _ (v3_1 + 6) _ h hP hS (lv_sub hl [1, 2, 3, 0] rfl)
      replace h := jh_f h c33_9
      by_cases c33_10 : ((xs (Int32.toNatClampNeg v3_1)) &&& 63) = 10
      · replace h := jh_t h c33_10
        refine lv_tableIn (off := 505) (tgt := 538) hx hb dL_law_33 (by rw [c33_10]; decide) (by rw [c33_10]; decide) (by rw [c33_10]; rfl) rfl ?_
        refine lv_aload_n hx hb dL_law_538 rfl (lv_at hl 1 rfl) ?_
        refine lv_aload_n hx hb dL_law_539 rfl (lv_at hl 0 rfl) ?_
        refine lv_iload_n hx hb dL_law_540 rfl (lv_at hl 3 rfl) ?_
        refine lv_iconst (v := 1) hx hb dL_law_541 jci_1 ?_
        refine lv_iadd hx hb dL_law_542 ?_
        obtain ⟨g543, h⟩ := jh_gd h
        refine va_sld hx hb hX hbl hbA hS g543 dL_law_543 ?_
        refine lv_aload_n hx hb dL_law_544 rfl (lv_at hl 0 rfl) ?_
        refine lv_iload_n hx hb dL_law_545 rfl (lv_at hl 3 rfl) ?_
        refine lv_iconst (v := 2) hx hb dL_law_546 jci_2 ?_
        refine lv_iadd hx hb dL_law_547 ?_
        obtain ⟨g548, h⟩ := jh_gd h
        refine va_sld hx hb hX hbl hbA hS g548 dL_law_548 ?_
        refine lv_aload_n hx hb dL_law_549 rfl (lv_at hl 0 rfl) ?_
        refine lv_iload_n hx hb dL_law_550 rfl (lv_at hl 3 rfl) ?_
        refine lv_iconst (v := 3) hx hb dL_law_551 jci_3 ?_
        refine lv_iadd hx hb dL_law_552 ?_
        obtain ⟨g553, h⟩ := jh_gd h
        refine va_sld hx hb hX hbl hbA hS g553 dL_law_553 ?_
        obtain ⟨r22, M_22, e22, h⟩ := jh_b2 h
        refine jr_km (jr_rv (As := [.int (xs (Int32.toNatClampNeg (v3_1 + 1))), .int (xs (Int32.toNatClampNeg (v3_1 + 2))), .int (xs (Int32.toNatClampNeg (v3_1 + 3)))]) (rest := []) S hK hP jb_0 rfl (m_X5_trades l X (fun q : Nat => s.heap.size ≤ q) hs M_1 (xs (Int32.toNatClampNeg (v3_1 + 1))) (xs (Int32.toNatClampNeg (v3_1 + 2))) (xs (Int32.toNatClampNeg (v3_1 + 3))) r22 M_22 e22) jw_X5_trades ji_X5_trades jmL_57 rfl rfl ⟨(Nat.le_of_ble_eq_true rfl), (Nat.le_of_ble_eq_true rfl)⟩ rfl hl.1 rfl (Nat.le_of_ble_eq_true rfl) dL_law_554 ⟨(Nat.le_of_ble_eq_true rfl), (Nat.le_of_ble_eq_true rfl)⟩) hS (fun H locs hP hS => ?_)
        refine lv_pop hx hb dL_law_557 rfl ?_
        refine lv_aload_n hx hb dL_law_558 rfl (lv_at hl 2 rfl) ?_
        refine lv_aload_n hx hb dL_law_559 rfl (lv_at hl 0 rfl) ?_
        refine lv_iload_n hx hb dL_law_560 rfl (lv_at hl 3 rfl) ?_
        refine lv_iconst (v := 1) hx hb dL_law_561 jci_1 ?_
        refine lv_iadd hx hb dL_law_562 ?_
        obtain ⟨g563, h⟩ := jh_gd h
        refine va_sld hx hb hX hbl hbA hS g563 dL_law_563 ?_
        refine lv_aload_n hx hb dL_law_564 rfl (lv_at hl 0 rfl) ?_
        refine lv_iload_n hx hb dL_law_565 rfl (lv_at hl 3 rfl) ?_
        refine lv_iconst (v := 2) hx hb dL_law_566 jci_2 ?_
        refine lv_iadd hx hb dL_law_567 ?_
        obtain ⟨g568, h⟩ := jh_gd h
        refine va_sld hx hb hX hbl hbA hS g568 dL_law_568 ?_
        refine lv_aload_n hx hb dL_law_569 rfl (lv_at hl 0 rfl) ?_
        refine lv_iload_n hx hb dL_law_570 rfl (lv_at hl 3 rfl) ?_
        refine lv_iconst (v := 3) hx hb dL_law_571 jci_3 ?_
        refine lv_iadd hx hb dL_law_572 ?_
        obtain ⟨g573, h⟩ := jh_gd h
        refine va_sld hx hb hX hbl hbA hS g573 dL_law_573 ?_
        obtain ⟨r23, M_23, e23, h⟩ := jh_b2 h
        refine jr_km (jr_rv (As := [.int (xs (Int32.toNatClampNeg (v3_1 + 1))), .int (xs (Int32.toNatClampNeg (v3_1 + 2))), .int (xs (Int32.toNatClampNeg (v3_1 + 3)))]) (rest := []) S hK hP jb_16 rfl (m_X6_trades l X (fun q : Nat => s.heap.size ≤ q) hs M_22 (xs (Int32.toNatClampNeg (v3_1 + 1))) (xs (Int32.toNatClampNeg (v3_1 + 2))) (xs (Int32.toNatClampNeg (v3_1 + 3))) r23 M_23 e23) jw_X6_trades ji_X6_trades jmL_60 rfl rfl ⟨(Nat.le_of_ble_eq_true rfl), (Nat.le_of_ble_eq_true rfl)⟩ rfl hl.1 rfl (Nat.le_of_ble_eq_true rfl) dL_law_574 ⟨(Nat.le_of_ble_eq_true rfl), (Nat.le_of_ble_eq_true rfl)⟩) hS (fun H locs hP hS => ?_)
        refine lv_pop hx hb dL_law_577 rfl ?_
        refine lv_goto (tgt := 1493) hx hb dL_law_578 rfl ?_
        refine lv_iinc (v := (v3_1 + 6)) (lv' := [(3, .int (v3_1 + 6)), (0, .ref b), (1, .ref (jO X 0)), (2, .ref (jO X 16))]) hx hb dL_law_1493 hl (k := 3) rfl (congrArg _ jci_6) (Nat.le_of_ble_eq_true rfl) rfl (fun ls hl => ?_)
        refine lv_goto (tgt := 18) hx hb dL_law_1496 rfl ?_
        exact ih18 M_23 _ _ (v3_1 + 6) _ h hP hS (lv_sub hl [1, 2, 3, 0] rfl)
      replace h := jh_f h c33_10
      by_cases c33_11 : ((xs (Int32.toNatClampNeg v3_1)) &&& 63) = 11
      · replace h := jh_t h c33_11
        refine lv_tableIn (off := 548) (tgt := 581) hx hb dL_law_33 (by rw [c33_11]; decide) (by rw [c33_11]; decide) (by rw [c33_11]; rfl) rfl ?_
        refine lv_aload_n hx hb dL_law_581 rfl (lv_at hl 1 rfl) ?_
        refine lv_aload_n hx hb dL_law_582 rfl (lv_at hl 0 rfl) ?_
        refine lv_iload_n hx hb dL_law_583 rfl (lv_at hl 3 rfl) ?_
        refine lv_iconst (v := 1) hx hb dL_law_584 jci_1 ?_
        refine lv_iadd hx hb dL_law_585 ?_
        obtain ⟨g586, h⟩ := jh_gd h
        refine va_sld hx hb hX hbl hbA hS g586 dL_law_586 ?_
        obtain ⟨r24, M_24, e24, h⟩ := jh_b2 h
        refine jr_km (jr_rv (As := [.int (xs (Int32.toNatClampNeg (v3_1 + 1)))]) (rest := []) S hK hP jb_0 rfl (m_X5_evenings l X (fun q : Nat => s.heap.size ≤ q) hs M_1 (xs (Int32.toNatClampNeg (v3_1 + 1))) r24 M_24 e24) jw_X5_evenings ji_X5_evenings jmL_61 rfl rfl ⟨(Nat.le_of_ble_eq_true rfl), (Nat.le_of_ble_eq_true rfl)⟩ rfl hl.1 rfl (Nat.le_of_ble_eq_true rfl) dL_law_587 ⟨(Nat.le_of_ble_eq_true rfl), (Nat.le_of_ble_eq_true rfl)⟩) hS (fun H locs hP hS => ?_)
        refine lv_pop hx hb dL_law_590 rfl ?_
        refine lv_aload_n hx hb dL_law_591 rfl (lv_at hl 2 rfl) ?_
        refine lv_aload_n hx hb dL_law_592 rfl (lv_at hl 0 rfl) ?_
        refine lv_iload_n hx hb dL_law_593 rfl (lv_at hl 3 rfl) ?_
        refine lv_iconst (v := 1) hx hb dL_law_594 jci_1 ?_
        refine lv_iadd hx hb dL_law_595 ?_
        obtain ⟨g596, h⟩ := jh_gd h
        refine va_sld hx hb hX hbl hbA hS g596 dL_law_596 ?_
        obtain ⟨r25, M_25, e25, h⟩ := jh_b2 h
        refine jr_km (jr_rv (As := [.int (xs (Int32.toNatClampNeg (v3_1 + 1)))]) (rest := []) S hK hP jb_16 rfl (m_X6_evenings l X (fun q : Nat => s.heap.size ≤ q) hs M_24 (xs (Int32.toNatClampNeg (v3_1 + 1))) r25 M_25 e25) jw_X6_evenings ji_X6_evenings jmL_64 rfl rfl ⟨(Nat.le_of_ble_eq_true rfl), (Nat.le_of_ble_eq_true rfl)⟩ rfl hl.1 rfl (Nat.le_of_ble_eq_true rfl) dL_law_597 ⟨(Nat.le_of_ble_eq_true rfl), (Nat.le_of_ble_eq_true rfl)⟩) hS (fun H locs hP hS => ?_)
        refine lv_pop hx hb dL_law_600 rfl ?_
        refine lv_goto (tgt := 1493) hx hb dL_law_601 rfl ?_
        refine lv_iinc (v := (v3_1 + 6)) (lv' := [(3, .int (v3_1 + 6)), (0, .ref b), (1, .ref (jO X 0)), (2, .ref (jO X 16))]) hx hb dL_law_1493 hl (k := 3) rfl (congrArg _ jci_6) (Nat.le_of_ble_eq_true rfl) rfl (fun ls hl => ?_)
        refine lv_goto (tgt := 18) hx hb dL_law_1496 rfl ?_
        exact ih18 M_25 _ _ (v3_1 + 6) _ h hP hS (lv_sub hl [1, 2, 3, 0] rfl)
      replace h := jh_f h c33_11
      by_cases c33_12 : ((xs (Int32.toNatClampNeg v3_1)) &&& 63) = 12
      · replace h := jh_t h c33_12
        refine lv_tableIn (off := 571) (tgt := 604) hx hb dL_law_33 (by rw [c33_12]; decide) (by rw [c33_12]; decide) (by rw [c33_12]; rfl) rfl ?_
        refine lv_aload_n hx hb dL_law_604 rfl (lv_at hl 1 rfl) ?_
        obtain ⟨r26, M_26, e26, h⟩ := jh_b2 h
        refine jr_km (jr_rv (As := []) (rest := []) S hK hP jb_0 rfl (m_X5_back l X (fun q : Nat => s.heap.size ≤ q) hs M_1  r26 M_26 e26) jw_X5_back ji_X5_back jmL_65 rfl rfl ⟨(Nat.le_of_ble_eq_true rfl), (Nat.le_of_ble_eq_true rfl)⟩ rfl hl.1 rfl (Nat.le_of_ble_eq_true rfl) dL_law_605 ⟨(Nat.le_of_ble_eq_true rfl), (Nat.le_of_ble_eq_true rfl)⟩) hS (fun H locs hP hS => ?_)
        refine lv_pop hx hb dL_law_608 rfl ?_
        refine lv_aload_n hx hb dL_law_609 rfl (lv_at hl 2 rfl) ?_
        obtain ⟨r27, M_27, e27, h⟩ := jh_b2 h
        refine jr_km (jr_rv (As := []) (rest := []) S hK hP jb_16 rfl (m_X6_back l X (fun q : Nat => s.heap.size ≤ q) hs M_26  r27 M_27 e27) jw_X6_back ji_X6_back jmL_68 rfl rfl ⟨(Nat.le_of_ble_eq_true rfl), (Nat.le_of_ble_eq_true rfl)⟩ rfl hl.1 rfl (Nat.le_of_ble_eq_true rfl) dL_law_610 ⟨(Nat.le_of_ble_eq_true rfl), (Nat.le_of_ble_eq_true rfl)⟩) hS (fun H locs hP hS => ?_)
        refine lv_pop hx hb dL_law_613 rfl ?_
        refine lv_goto (tgt := 1493) hx hb dL_law_614 rfl ?_
        refine lv_iinc (v := (v3_1 + 6)) (lv' := [(3, .int (v3_1 + 6)), (0, .ref b), (1, .ref (jO X 0)), (2, .ref (jO X 16))]) hx hb dL_law_1493 hl (k := 3) rfl (congrArg _ jci_6) (Nat.le_of_ble_eq_true rfl) rfl (fun ls hl => ?_)
        refine lv_goto (tgt := 18) hx hb dL_law_1496 rfl ?_
        exact ih18 M_27 _ _ (v3_1 + 6) _ h hP hS (lv_sub hl [1, 2, 3, 0] rfl)
      replace h := jh_f h c33_12
      by_cases c33_13 : ((xs (Int32.toNatClampNeg v3_1)) &&& 63) = 13
      · replace h := jh_t h c33_13
        refine lv_tableIn (off := 584) (tgt := 617) hx hb dL_law_33 (by rw [c33_13]; decide) (by rw [c33_13]; decide) (by rw [c33_13]; rfl) rfl ?_
        refine lv_aload_n hx hb dL_law_617 rfl (lv_at hl 1 rfl) ?_
        refine lv_aload_n hx hb dL_law_618 rfl (lv_at hl 0 rfl) ?_
        refine lv_iload_n hx hb dL_law_619 rfl (lv_at hl 3 rfl) ?_
        refine lv_iconst (v := 1) hx hb dL_law_620 jci_1 ?_
        refine lv_iadd hx hb dL_law_621 ?_
        obtain ⟨g622, h⟩ := jh_gd h
        refine va_sld hx hb hX hbl hbA hS g622 dL_law_622 ?_
        refine lv_aload_n hx hb dL_law_623 rfl (lv_at hl 0 rfl) ?_
        refine lv_iload_n hx hb dL_law_624 rfl (lv_at hl 3 rfl) ?_
        refine lv_iconst (v := 2) hx hb dL_law_625 jci_2 ?_
        refine lv_iadd hx hb dL_law_626 ?_
        obtain ⟨g627, h⟩ := jh_gd h
        refine va_sld hx hb hX hbl hbA hS g627 dL_law_627 ?_
        refine lv_aload_n hx hb dL_law_628 rfl (lv_at hl 0 rfl) ?_
        refine lv_iload_n hx hb dL_law_629 rfl (lv_at hl 3 rfl) ?_
        refine lv_iconst (v := 3) hx hb dL_law_630 jci_3 ?_
        refine lv_iadd hx hb dL_law_631 ?_
        obtain ⟨g632, h⟩ := jh_gd h
        refine va_sld hx hb hX hbl hbA hS g632 dL_law_632 ?_
        obtain ⟨r28, M_28, e28, h⟩ := jh_b2 h
        refine jr_km (jr_rv (As := [.int (xs (Int32.toNatClampNeg (v3_1 + 1))), .int (xs (Int32.toNatClampNeg (v3_1 + 2))), .int (xs (Int32.toNatClampNeg (v3_1 + 3)))]) (rest := []) S hK hP jb_0 rfl (m_X5_walkerIn l X (fun q : Nat => s.heap.size ≤ q) hs M_1 (xs (Int32.toNatClampNeg (v3_1 + 1))) (xs (Int32.toNatClampNeg (v3_1 + 2))) (xs (Int32.toNatClampNeg (v3_1 + 3))) r28 M_28 e28) jw_X5_walkerIn ji_X5_walkerIn jmL_69 rfl rfl ⟨(Nat.le_of_ble_eq_true rfl), (Nat.le_of_ble_eq_true rfl)⟩ rfl hl.1 rfl (Nat.le_of_ble_eq_true rfl) dL_law_633 ⟨(Nat.le_of_ble_eq_true rfl), (Nat.le_of_ble_eq_true rfl)⟩) hS (fun H locs hP hS => ?_)
        refine lv_pop hx hb dL_law_636 rfl ?_
        refine lv_aload_n hx hb dL_law_637 rfl (lv_at hl 2 rfl) ?_
        refine lv_aload_n hx hb dL_law_638 rfl (lv_at hl 0 rfl) ?_
        refine lv_iload_n hx hb dL_law_639 rfl (lv_at hl 3 rfl) ?_
        refine lv_iconst (v := 1) hx hb dL_law_640 jci_1 ?_
        refine lv_iadd hx hb dL_law_641 ?_
        obtain ⟨g642, h⟩ := jh_gd h
        refine va_sld hx hb hX hbl hbA hS g642 dL_law_642 ?_
        refine lv_aload_n hx hb dL_law_643 rfl (lv_at hl 0 rfl) ?_
        refine lv_iload_n hx hb dL_law_644 rfl (lv_at hl 3 rfl) ?_
        refine lv_iconst (v := 2) hx hb dL_law_645 jci_2 ?_
        refine lv_iadd hx hb dL_law_646 ?_
        obtain ⟨g647, h⟩ := jh_gd h
        refine va_sld hx hb hX hbl hbA hS g647 dL_law_647 ?_
        refine lv_aload_n hx hb dL_law_648 rfl (lv_at hl 0 rfl) ?_
        refine lv_iload_n hx hb dL_law_649 rfl (lv_at hl 3 rfl) ?_
        refine lv_iconst (v := 3) hx hb dL_law_650 jci_3 ?_
        refine lv_iadd hx hb dL_law_651 ?_
        obtain ⟨g652, h⟩ := jh_gd h
        refine va_sld hx hb hX hbl hbA hS g652 dL_law_652 ?_
        obtain ⟨r29, M_29, e29, h⟩ := jh_b2 h
        refine jr_km (jr_rv (As := [.int (xs (Int32.toNatClampNeg (v3_1 + 1))), .int (xs (Int32.toNatClampNeg (v3_1 + 2))), .int (xs (Int32.toNatClampNeg (v3_1 + 3)))]) (rest := []) S hK hP jb_16 rfl (m_X6_walkerIn l X (fun q : Nat => s.heap.size ≤ q) hs M_28 (xs (Int32.toNatClampNeg (v3_1 + 1))) (xs (Int32.toNatClampNeg (v3_1 + 2))) (xs (Int32.toNatClampNeg (v3_1 + 3))) r29 M_29 e29) jw_X6_walkerIn ji_X6_walkerIn jmL_72 rfl rfl ⟨(Nat.le_of_ble_eq_true rfl), (Nat.le_of_ble_eq_true rfl)⟩ rfl hl.1 rfl (Nat.le_of_ble_eq_true rfl) dL_law_653 ⟨(Nat.le_of_ble_eq_true rfl), (Nat.le_of_ble_eq_true rfl)⟩) hS (fun H locs hP hS => ?_)
        refine lv_pop hx hb dL_law_656 rfl ?_
        refine lv_goto (tgt := 1493) hx hb dL_law_657 rfl ?_
        refine lv_iinc (v := (v3_1 + 6)) (lv' := [(3, .int (v3_1 + 6)), (0, .ref b), (1, .ref (jO X 0)), (2, .ref (jO X 16))]) hx hb dL_law_1493 hl (k := 3) rfl (congrArg _ jci_6) (Nat.le_of_ble_eq_true rfl) rfl (fun ls hl => ?_)
        refine lv_goto (tgt := 18) hx hb dL_law_1496 rfl ?_
        exact ih18 M_29 _ _ (v3_1 + 6) _ h hP hS (lv_sub hl [1, 2, 3, 0] rfl)
      replace h := jh_f h c33_13
      by_cases c33_14 : ((xs (Int32.toNatClampNeg v3_1)) &&& 63) = 14
      · replace h := jh_t h c33_14
        refine lv_tableIn (off := 627) (tgt := 660) hx hb dL_law_33 (by rw [c33_14]; decide) (by rw [c33_14]; decide) (by rw [c33_14]; rfl) rfl ?_
        refine lv_aload_n hx hb dL_law_660 rfl (lv_at hl 1 rfl) ?_
        refine lv_aload_n hx hb dL_law_661 rfl (lv_at hl 0 rfl) ?_
        refine lv_iload_n hx hb dL_law_662 rfl (lv_at hl 3 rfl) ?_
        refine lv_iconst (v := 1) hx hb dL_law_663 jci_1 ?_
        refine lv_iadd hx hb dL_law_664 ?_
        obtain ⟨g665, h⟩ := jh_gd h
        refine va_sld hx hb hX hbl hbA hS g665 dL_law_665 ?_
        obtain ⟨r30, M_30, e30, h⟩ := jh_b2 h
        refine jr_km (jr_rv (As := [.int (xs (Int32.toNatClampNeg (v3_1 + 1)))]) (rest := []) S hK hP jb_0 rfl (m_X5_prices l X (fun q : Nat => s.heap.size ≤ q) hs M_1 (xs (Int32.toNatClampNeg (v3_1 + 1))) r30 M_30 e30) jw_X5_prices ji_X5_prices jmL_73 rfl rfl ⟨(Nat.le_of_ble_eq_true rfl), (Nat.le_of_ble_eq_true rfl)⟩ rfl hl.1 rfl (Nat.le_of_ble_eq_true rfl) dL_law_666 ⟨(Nat.le_of_ble_eq_true rfl), (Nat.le_of_ble_eq_true rfl)⟩) hS (fun H locs hP hS => ?_)
        refine lv_pop hx hb dL_law_669 rfl ?_
        refine lv_aload_n hx hb dL_law_670 rfl (lv_at hl 2 rfl) ?_
        refine lv_aload_n hx hb dL_law_671 rfl (lv_at hl 0 rfl) ?_
        refine lv_iload_n hx hb dL_law_672 rfl (lv_at hl 3 rfl) ?_
        refine lv_iconst (v := 1) hx hb dL_law_673 jci_1 ?_
        refine lv_iadd hx hb dL_law_674 ?_
        obtain ⟨g675, h⟩ := jh_gd h
        refine va_sld hx hb hX hbl hbA hS g675 dL_law_675 ?_
        obtain ⟨r31, M_31, e31, h⟩ := jh_b2 h
        refine jr_km (jr_rv (As := [.int (xs (Int32.toNatClampNeg (v3_1 + 1)))]) (rest := []) S hK hP jb_16 rfl (m_X6_prices l X (fun q : Nat => s.heap.size ≤ q) hs M_30 (xs (Int32.toNatClampNeg (v3_1 + 1))) r31 M_31 e31) jw_X6_prices ji_X6_prices jmL_76 rfl rfl ⟨(Nat.le_of_ble_eq_true rfl), (Nat.le_of_ble_eq_true rfl)⟩ rfl hl.1 rfl (Nat.le_of_ble_eq_true rfl) dL_law_676 ⟨(Nat.le_of_ble_eq_true rfl), (Nat.le_of_ble_eq_true rfl)⟩) hS (fun H locs hP hS => ?_)
        refine lv_pop hx hb dL_law_679 rfl ?_
        refine lv_goto (tgt := 1493) hx hb dL_law_680 rfl ?_
        refine lv_iinc (v := (v3_1 + 6)) (lv' := [(3, .int (v3_1 + 6)), (0, .ref b), (1, .ref (jO X 0)), (2, .ref (jO X 16))]) hx hb dL_law_1493 hl (k := 3) rfl (congrArg _ jci_6) (Nat.le_of_ble_eq_true rfl) rfl (fun ls hl => ?_)
        refine lv_goto (tgt := 18) hx hb dL_law_1496 rfl ?_
        exact ih18 M_31 _ _ (v3_1 + 6) _ h hP hS (lv_sub hl [1, 2, 3, 0] rfl)
      replace h := jh_f h c33_14
      by_cases c33_15 : ((xs (Int32.toNatClampNeg v3_1)) &&& 63) = 15
      · replace h := jh_t h c33_15
        refine lv_tableIn (off := 650) (tgt := 683) hx hb dL_law_33 (by rw [c33_15]; decide) (by rw [c33_15]; decide) (by rw [c33_15]; rfl) rfl ?_
        refine lv_aload_n hx hb dL_law_683 rfl (lv_at hl 1 rfl) ?_
        refine lv_aload_n hx hb dL_law_684 rfl (lv_at hl 0 rfl) ?_
        refine lv_iload_n hx hb dL_law_685 rfl (lv_at hl 3 rfl) ?_
        refine lv_iconst (v := 1) hx hb dL_law_686 jci_1 ?_
        refine lv_iadd hx hb dL_law_687 ?_
        obtain ⟨g688, h⟩ := jh_gd h
        refine va_sld hx hb hX hbl hbA hS g688 dL_law_688 ?_
        refine lv_aload_n hx hb dL_law_689 rfl (lv_at hl 0 rfl) ?_
        refine lv_iload_n hx hb dL_law_690 rfl (lv_at hl 3 rfl) ?_
        refine lv_iconst (v := 2) hx hb dL_law_691 jci_2 ?_
        refine lv_iadd hx hb dL_law_692 ?_
        obtain ⟨g693, h⟩ := jh_gd h
        refine va_sld hx hb hX hbl hbA hS g693 dL_law_693 ?_
        obtain ⟨r32, M_32, e32, h⟩ := jh_b2 h
        refine jr_km (jr_rv (As := [.int (xs (Int32.toNatClampNeg (v3_1 + 1))), .int (xs (Int32.toNatClampNeg (v3_1 + 2)))]) (rest := []) S hK hP jb_0 rfl (m_X5_owed l X (fun q : Nat => s.heap.size ≤ q) hs M_1 (xs (Int32.toNatClampNeg (v3_1 + 1))) (xs (Int32.toNatClampNeg (v3_1 + 2))) r32 M_32 e32) jw_X5_owed ji_X5_owed jmL_77 rfl rfl ⟨(Nat.le_of_ble_eq_true rfl), (Nat.le_of_ble_eq_true rfl)⟩ rfl hl.1 rfl (Nat.le_of_ble_eq_true rfl) dL_law_694 ⟨(Nat.le_of_ble_eq_true rfl), (Nat.le_of_ble_eq_true rfl)⟩) hS (fun H locs hP hS => ?_)
        refine lv_pop hx hb dL_law_697 rfl ?_
        refine lv_aload_n hx hb dL_law_698 rfl (lv_at hl 2 rfl) ?_
        refine lv_aload_n hx hb dL_law_699 rfl (lv_at hl 0 rfl) ?_
        refine lv_iload_n hx hb dL_law_700 rfl (lv_at hl 3 rfl) ?_
        refine lv_iconst (v := 1) hx hb dL_law_701 jci_1 ?_
        refine lv_iadd hx hb dL_law_702 ?_
        obtain ⟨g703, h⟩ := jh_gd h
        refine va_sld hx hb hX hbl hbA hS g703 dL_law_703 ?_
        refine lv_aload_n hx hb dL_law_704 rfl (lv_at hl 0 rfl) ?_
        refine lv_iload_n hx hb dL_law_705 rfl (lv_at hl 3 rfl) ?_
        refine lv_iconst (v := 2) hx hb dL_law_706 jci_2 ?_
        refine lv_iadd hx hb dL_law_707 ?_
        obtain ⟨g708, h⟩ := jh_gd h
        refine va_sld hx hb hX hbl hbA hS g708 dL_law_708 ?_
        obtain ⟨r33, M_33, e33, h⟩ := jh_b2 h
        refine jr_km (jr_rv (As := [.int (xs (Int32.toNatClampNeg (v3_1 + 1))), .int (xs (Int32.toNatClampNeg (v3_1 + 2)))]) (rest := []) S hK hP jb_16 rfl (m_X6_owed l X (fun q : Nat => s.heap.size ≤ q) hs M_32 (xs (Int32.toNatClampNeg (v3_1 + 1))) (xs (Int32.toNatClampNeg (v3_1 + 2))) r33 M_33 e33) jw_X6_owed ji_X6_owed jmL_80 rfl rfl ⟨(Nat.le_of_ble_eq_true rfl), (Nat.le_of_ble_eq_true rfl)⟩ rfl hl.1 rfl (Nat.le_of_ble_eq_true rfl) dL_law_709 ⟨(Nat.le_of_ble_eq_true rfl), (Nat.le_of_ble_eq_true rfl)⟩) hS (fun H locs hP hS => ?_)
        refine lv_pop hx hb dL_law_712 rfl ?_
        refine lv_goto (tgt := 1493) hx hb dL_law_713 rfl ?_
        refine lv_iinc (v := (v3_1 + 6)) (lv' := [(3, .int (v3_1 + 6)), (0, .ref b), (1, .ref (jO X 0)), (2, .ref (jO X 16))]) hx hb dL_law_1493 hl (k := 3) rfl (congrArg _ jci_6) (Nat.le_of_ble_eq_true rfl) rfl (fun ls hl => ?_)
        refine lv_goto (tgt := 18) hx hb dL_law_1496 rfl ?_
        exact ih18 M_33 _ _ (v3_1 + 6) _ h hP hS (lv_sub hl [1, 2, 3, 0] rfl)
      replace h := jh_f h c33_15
      by_cases c33_16 : ((xs (Int32.toNatClampNeg v3_1)) &&& 63) = 16
      · replace h := jh_t h c33_16
        refine lv_tableIn (off := 683) (tgt := 716) hx hb dL_law_33 (by rw [c33_16]; decide) (by rw [c33_16]; decide) (by rw [c33_16]; rfl) rfl ?_
        refine lv_aload_n hx hb dL_law_716 rfl (lv_at hl 1 rfl) ?_
        refine lv_aload_n hx hb dL_law_717 rfl (lv_at hl 0 rfl) ?_
        refine lv_iload_n hx hb dL_law_718 rfl (lv_at hl 3 rfl) ?_
        refine lv_iconst (v := 1) hx hb dL_law_719 jci_1 ?_
        refine lv_iadd hx hb dL_law_720 ?_
        obtain ⟨g721, h⟩ := jh_gd h
        refine va_sld hx hb hX hbl hbA hS g721 dL_law_721 ?_
        obtain ⟨r34, M_34, e34, h⟩ := jh_b2 h
        refine jr_km (jr_rv (As := [.int (xs (Int32.toNatClampNeg (v3_1 + 1)))]) (rest := []) S hK hP jb_0 rfl (m_X5_home l X (fun q : Nat => s.heap.size ≤ q) hs M_1 (xs (Int32.toNatClampNeg (v3_1 + 1))) r34 M_34 e34) jw_X5_home ji_X5_home jmL_81 rfl rfl ⟨(Nat.le_of_ble_eq_true rfl), (Nat.le_of_ble_eq_true rfl)⟩ rfl hl.1 rfl (Nat.le_of_ble_eq_true rfl) dL_law_722 ⟨(Nat.le_of_ble_eq_true rfl), (Nat.le_of_ble_eq_true rfl)⟩) hS (fun H locs hP hS => ?_)
        refine lv_pop hx hb dL_law_725 rfl ?_
        refine lv_aload_n hx hb dL_law_726 rfl (lv_at hl 2 rfl) ?_
        refine lv_aload_n hx hb dL_law_727 rfl (lv_at hl 0 rfl) ?_
        refine lv_iload_n hx hb dL_law_728 rfl (lv_at hl 3 rfl) ?_
        refine lv_iconst (v := 1) hx hb dL_law_729 jci_1 ?_
        refine lv_iadd hx hb dL_law_730 ?_
        obtain ⟨g731, h⟩ := jh_gd h
        refine va_sld hx hb hX hbl hbA hS g731 dL_law_731 ?_
        obtain ⟨r35, M_35, e35, h⟩ := jh_b2 h
        refine jr_km (jr_rv (As := [.int (xs (Int32.toNatClampNeg (v3_1 + 1)))]) (rest := []) S hK hP jb_16 rfl (m_X6_home l X (fun q : Nat => s.heap.size ≤ q) hs M_34 (xs (Int32.toNatClampNeg (v3_1 + 1))) r35 M_35 e35) jw_X6_home ji_X6_home jmL_84 rfl rfl ⟨(Nat.le_of_ble_eq_true rfl), (Nat.le_of_ble_eq_true rfl)⟩ rfl hl.1 rfl (Nat.le_of_ble_eq_true rfl) dL_law_732 ⟨(Nat.le_of_ble_eq_true rfl), (Nat.le_of_ble_eq_true rfl)⟩) hS (fun H locs hP hS => ?_)
        refine lv_pop hx hb dL_law_735 rfl ?_
        refine lv_goto (tgt := 1493) hx hb dL_law_736 rfl ?_
        refine lv_iinc (v := (v3_1 + 6)) (lv' := [(3, .int (v3_1 + 6)), (0, .ref b), (1, .ref (jO X 0)), (2, .ref (jO X 16))]) hx hb dL_law_1493 hl (k := 3) rfl (congrArg _ jci_6) (Nat.le_of_ble_eq_true rfl) rfl (fun ls hl => ?_)
        refine lv_goto (tgt := 18) hx hb dL_law_1496 rfl ?_
        exact ih18 M_35 _ _ (v3_1 + 6) _ h hP hS (lv_sub hl [1, 2, 3, 0] rfl)
      replace h := jh_f h c33_16
      by_cases c33_17 : ((xs (Int32.toNatClampNeg v3_1)) &&& 63) = 17
      · replace h := jh_t h c33_17
        refine lv_tableIn (off := 706) (tgt := 739) hx hb dL_law_33 (by rw [c33_17]; decide) (by rw [c33_17]; decide) (by rw [c33_17]; rfl) rfl ?_
        refine lv_aload_n hx hb dL_law_739 rfl (lv_at hl 1 rfl) ?_
        refine lv_aload_n hx hb dL_law_740 rfl (lv_at hl 0 rfl) ?_
        refine lv_iload_n hx hb dL_law_741 rfl (lv_at hl 3 rfl) ?_
        refine lv_iconst (v := 1) hx hb dL_law_742 jci_1 ?_
        refine lv_iadd hx hb dL_law_743 ?_
        obtain ⟨g744, h⟩ := jh_gd h
        refine va_sld hx hb hX hbl hbA hS g744 dL_law_744 ?_
        obtain ⟨r36, M_36, e36, h⟩ := jh_b2 h
        refine jr_km (jr_rv (As := [.int (xs (Int32.toNatClampNeg (v3_1 + 1)))]) (rest := []) S hK hP jb_0 rfl (m_X5_richest l X (fun q : Nat => s.heap.size ≤ q) hs M_1 (xs (Int32.toNatClampNeg (v3_1 + 1))) r36 M_36 e36) jw_X5_richest ji_X5_richest jmL_85 rfl rfl ⟨(Nat.le_of_ble_eq_true rfl), (Nat.le_of_ble_eq_true rfl)⟩ rfl hl.1 rfl (Nat.le_of_ble_eq_true rfl) dL_law_745 ⟨(Nat.le_of_ble_eq_true rfl), (Nat.le_of_ble_eq_true rfl)⟩) hS (fun H locs hP hS => ?_)
        refine lv_pop hx hb dL_law_748 rfl ?_
        refine lv_aload_n hx hb dL_law_749 rfl (lv_at hl 2 rfl) ?_
        refine lv_aload_n hx hb dL_law_750 rfl (lv_at hl 0 rfl) ?_
        refine lv_iload_n hx hb dL_law_751 rfl (lv_at hl 3 rfl) ?_
        refine lv_iconst (v := 1) hx hb dL_law_752 jci_1 ?_
        refine lv_iadd hx hb dL_law_753 ?_
        obtain ⟨g754, h⟩ := jh_gd h
        refine va_sld hx hb hX hbl hbA hS g754 dL_law_754 ?_
        obtain ⟨r37, M_37, e37, h⟩ := jh_b2 h
        refine jr_km (jr_rv (As := [.int (xs (Int32.toNatClampNeg (v3_1 + 1)))]) (rest := []) S hK hP jb_16 rfl (m_X6_richest l X (fun q : Nat => s.heap.size ≤ q) hs M_36 (xs (Int32.toNatClampNeg (v3_1 + 1))) r37 M_37 e37) jw_X6_richest ji_X6_richest jmL_88 rfl rfl ⟨(Nat.le_of_ble_eq_true rfl), (Nat.le_of_ble_eq_true rfl)⟩ rfl hl.1 rfl (Nat.le_of_ble_eq_true rfl) dL_law_755 ⟨(Nat.le_of_ble_eq_true rfl), (Nat.le_of_ble_eq_true rfl)⟩) hS (fun H locs hP hS => ?_)
        refine lv_pop hx hb dL_law_758 rfl ?_
        refine lv_goto (tgt := 1493) hx hb dL_law_759 rfl ?_
        refine lv_iinc (v := (v3_1 + 6)) (lv' := [(3, .int (v3_1 + 6)), (0, .ref b), (1, .ref (jO X 0)), (2, .ref (jO X 16))]) hx hb dL_law_1493 hl (k := 3) rfl (congrArg _ jci_6) (Nat.le_of_ble_eq_true rfl) rfl (fun ls hl => ?_)
        refine lv_goto (tgt := 18) hx hb dL_law_1496 rfl ?_
        exact ih18 M_37 _ _ (v3_1 + 6) _ h hP hS (lv_sub hl [1, 2, 3, 0] rfl)
      replace h := jh_f h c33_17
      by_cases c33_18 : ((xs (Int32.toNatClampNeg v3_1)) &&& 63) = 18
      · replace h := jh_t h c33_18
        refine lv_tableIn (off := 729) (tgt := 762) hx hb dL_law_33 (by rw [c33_18]; decide) (by rw [c33_18]; decide) (by rw [c33_18]; rfl) rfl ?_
        refine lv_aload_n hx hb dL_law_762 rfl (lv_at hl 1 rfl) ?_
        refine lv_aload_n hx hb dL_law_763 rfl (lv_at hl 0 rfl) ?_
        refine lv_iload_n hx hb dL_law_764 rfl (lv_at hl 3 rfl) ?_
        refine lv_iconst (v := 1) hx hb dL_law_765 jci_1 ?_
        refine lv_iadd hx hb dL_law_766 ?_
        obtain ⟨g767, h⟩ := jh_gd h
        refine va_sld hx hb hX hbl hbA hS g767 dL_law_767 ?_
        refine lv_aload_n hx hb dL_law_768 rfl (lv_at hl 0 rfl) ?_
        refine lv_iload_n hx hb dL_law_769 rfl (lv_at hl 3 rfl) ?_
        refine lv_iconst (v := 2) hx hb dL_law_770 jci_2 ?_
        refine lv_iadd hx hb dL_law_771 ?_
        obtain ⟨g772, h⟩ := jh_gd h
        refine va_sld hx hb hX hbl hbA hS g772 dL_law_772 ?_
        refine lv_aload_n hx hb dL_law_773 rfl (lv_at hl 0 rfl) ?_
        refine lv_iload_n hx hb dL_law_774 rfl (lv_at hl 3 rfl) ?_
        refine lv_iconst (v := 3) hx hb dL_law_775 jci_3 ?_
        refine lv_iadd hx hb dL_law_776 ?_
        obtain ⟨g777, h⟩ := jh_gd h
        refine va_sld hx hb hX hbl hbA hS g777 dL_law_777 ?_
        obtain ⟨r38, M_38, e38, h⟩ := jh_b2 h
        refine jr_km (jr_rv (As := [.int (xs (Int32.toNatClampNeg (v3_1 + 1))), .int (xs (Int32.toNatClampNeg (v3_1 + 2))), .int (xs (Int32.toNatClampNeg (v3_1 + 3)))]) (rest := []) S hK hP jb_0 rfl (m_X5_way l X (fun q : Nat => s.heap.size ≤ q) hs M_1 (xs (Int32.toNatClampNeg (v3_1 + 1))) (xs (Int32.toNatClampNeg (v3_1 + 2))) (xs (Int32.toNatClampNeg (v3_1 + 3))) r38 M_38 e38) jw_X5_way ji_X5_way jmL_89 rfl rfl ⟨(Nat.le_of_ble_eq_true rfl), (Nat.le_of_ble_eq_true rfl)⟩ rfl hl.1 rfl (Nat.le_of_ble_eq_true rfl) dL_law_778 ⟨(Nat.le_of_ble_eq_true rfl), (Nat.le_of_ble_eq_true rfl)⟩) hS (fun H locs hP hS => ?_)
        refine lv_pop hx hb dL_law_781 rfl ?_
        refine lv_aload_n hx hb dL_law_782 rfl (lv_at hl 2 rfl) ?_
        refine lv_aload_n hx hb dL_law_783 rfl (lv_at hl 0 rfl) ?_
        refine lv_iload_n hx hb dL_law_784 rfl (lv_at hl 3 rfl) ?_
        refine lv_iconst (v := 1) hx hb dL_law_785 jci_1 ?_
        refine lv_iadd hx hb dL_law_786 ?_
        obtain ⟨g787, h⟩ := jh_gd h
        refine va_sld hx hb hX hbl hbA hS g787 dL_law_787 ?_
        refine lv_aload_n hx hb dL_law_788 rfl (lv_at hl 0 rfl) ?_
        refine lv_iload_n hx hb dL_law_789 rfl (lv_at hl 3 rfl) ?_
        refine lv_iconst (v := 2) hx hb dL_law_790 jci_2 ?_
        refine lv_iadd hx hb dL_law_791 ?_
        obtain ⟨g792, h⟩ := jh_gd h
        refine va_sld hx hb hX hbl hbA hS g792 dL_law_792 ?_
        refine lv_aload_n hx hb dL_law_793 rfl (lv_at hl 0 rfl) ?_
        refine lv_iload_n hx hb dL_law_794 rfl (lv_at hl 3 rfl) ?_
        refine lv_iconst (v := 3) hx hb dL_law_795 jci_3 ?_
        refine lv_iadd hx hb dL_law_796 ?_
        obtain ⟨g797, h⟩ := jh_gd h
        refine va_sld hx hb hX hbl hbA hS g797 dL_law_797 ?_
        obtain ⟨r39, M_39, e39, h⟩ := jh_b2 h
        refine jr_km (jr_rv (As := [.int (xs (Int32.toNatClampNeg (v3_1 + 1))), .int (xs (Int32.toNatClampNeg (v3_1 + 2))), .int (xs (Int32.toNatClampNeg (v3_1 + 3)))]) (rest := []) S hK hP jb_16 rfl (m_X6_way l X (fun q : Nat => s.heap.size ≤ q) hs M_38 (xs (Int32.toNatClampNeg (v3_1 + 1))) (xs (Int32.toNatClampNeg (v3_1 + 2))) (xs (Int32.toNatClampNeg (v3_1 + 3))) r39 M_39 e39) jw_X6_way ji_X6_way jmL_92 rfl rfl ⟨(Nat.le_of_ble_eq_true rfl), (Nat.le_of_ble_eq_true rfl)⟩ rfl hl.1 rfl (Nat.le_of_ble_eq_true rfl) dL_law_798 ⟨(Nat.le_of_ble_eq_true rfl), (Nat.le_of_ble_eq_true rfl)⟩) hS (fun H locs hP hS => ?_)
        refine lv_pop hx hb dL_law_801 rfl ?_
        refine lv_goto (tgt := 1493) hx hb dL_law_802 rfl ?_
        refine lv_iinc (v := (v3_1 + 6)) (lv' := [(3, .int (v3_1 + 6)), (0, .ref b), (1, .ref (jO X 0)), (2, .ref (jO X 16))]) hx hb dL_law_1493 hl (k := 3) rfl (congrArg _ jci_6) (Nat.le_of_ble_eq_true rfl) rfl (fun ls hl => ?_)
        refine lv_goto (tgt := 18) hx hb dL_law_1496 rfl ?_
        exact ih18 M_39 _ _ (v3_1 + 6) _ h hP hS (lv_sub hl [1, 2, 3, 0] rfl)
      replace h := jh_f h c33_18
      by_cases c33_19 : ((xs (Int32.toNatClampNeg v3_1)) &&& 63) = 19
      · replace h := jh_t h c33_19
        refine lv_tableIn (off := 772) (tgt := 805) hx hb dL_law_33 (by rw [c33_19]; decide) (by rw [c33_19]; decide) (by rw [c33_19]; rfl) rfl ?_
        refine lv_aload_n hx hb dL_law_805 rfl (lv_at hl 1 rfl) ?_
        refine lv_aload_n hx hb dL_law_806 rfl (lv_at hl 0 rfl) ?_
        refine lv_iload_n hx hb dL_law_807 rfl (lv_at hl 3 rfl) ?_
        refine lv_iconst (v := 1) hx hb dL_law_808 jci_1 ?_
        refine lv_iadd hx hb dL_law_809 ?_
        obtain ⟨g810, h⟩ := jh_gd h
        refine va_sld hx hb hX hbl hbA hS g810 dL_law_810 ?_
        refine lv_aload_n hx hb dL_law_811 rfl (lv_at hl 0 rfl) ?_
        refine lv_iload_n hx hb dL_law_812 rfl (lv_at hl 3 rfl) ?_
        refine lv_iconst (v := 2) hx hb dL_law_813 jci_2 ?_
        refine lv_iadd hx hb dL_law_814 ?_
        obtain ⟨g815, h⟩ := jh_gd h
        refine va_sld hx hb hX hbl hbA hS g815 dL_law_815 ?_
        obtain ⟨r40, M_40, e40, h⟩ := jh_b2 h
        refine jr_km (jr_rv (As := [.int (xs (Int32.toNatClampNeg (v3_1 + 1))), .int (xs (Int32.toNatClampNeg (v3_1 + 2)))]) (rest := []) S hK hP jb_0 rfl (m_X5_payAll l X (fun q : Nat => s.heap.size ≤ q) hs M_1 (xs (Int32.toNatClampNeg (v3_1 + 1))) (xs (Int32.toNatClampNeg (v3_1 + 2))) r40 M_40 e40) jw_X5_payAll ji_X5_payAll jmL_93 rfl rfl ⟨(Nat.le_of_ble_eq_true rfl), (Nat.le_of_ble_eq_true rfl)⟩ rfl hl.1 rfl (Nat.le_of_ble_eq_true rfl) dL_law_816 ⟨(Nat.le_of_ble_eq_true rfl), (Nat.le_of_ble_eq_true rfl)⟩) hS (fun H locs hP hS => ?_)
        refine lv_pop hx hb dL_law_819 rfl ?_
        refine lv_aload_n hx hb dL_law_820 rfl (lv_at hl 2 rfl) ?_
        refine lv_aload_n hx hb dL_law_821 rfl (lv_at hl 0 rfl) ?_
        refine lv_iload_n hx hb dL_law_822 rfl (lv_at hl 3 rfl) ?_
        refine lv_iconst (v := 1) hx hb dL_law_823 jci_1 ?_
        refine lv_iadd hx hb dL_law_824 ?_
        obtain ⟨g825, h⟩ := jh_gd h
        refine va_sld hx hb hX hbl hbA hS g825 dL_law_825 ?_
        refine lv_aload_n hx hb dL_law_826 rfl (lv_at hl 0 rfl) ?_
        refine lv_iload_n hx hb dL_law_827 rfl (lv_at hl 3 rfl) ?_
        refine lv_iconst (v := 2) hx hb dL_law_828 jci_2 ?_
        refine lv_iadd hx hb dL_law_829 ?_
        obtain ⟨g830, h⟩ := jh_gd h
        refine va_sld hx hb hX hbl hbA hS g830 dL_law_830 ?_
        obtain ⟨r41, M_41, e41, h⟩ := jh_b2 h
        refine jr_km (jr_rv (As := [.int (xs (Int32.toNatClampNeg (v3_1 + 1))), .int (xs (Int32.toNatClampNeg (v3_1 + 2)))]) (rest := []) S hK hP jb_16 rfl (m_X6_payAll l X (fun q : Nat => s.heap.size ≤ q) hs M_40 (xs (Int32.toNatClampNeg (v3_1 + 1))) (xs (Int32.toNatClampNeg (v3_1 + 2))) r41 M_41 e41) jw_X6_payAll ji_X6_payAll jmL_96 rfl rfl ⟨(Nat.le_of_ble_eq_true rfl), (Nat.le_of_ble_eq_true rfl)⟩ rfl hl.1 rfl (Nat.le_of_ble_eq_true rfl) dL_law_831 ⟨(Nat.le_of_ble_eq_true rfl), (Nat.le_of_ble_eq_true rfl)⟩) hS (fun H locs hP hS => ?_)
        refine lv_pop hx hb dL_law_834 rfl ?_
        refine lv_goto (tgt := 1493) hx hb dL_law_835 rfl ?_
        refine lv_iinc (v := (v3_1 + 6)) (lv' := [(3, .int (v3_1 + 6)), (0, .ref b), (1, .ref (jO X 0)), (2, .ref (jO X 16))]) hx hb dL_law_1493 hl (k := 3) rfl (congrArg _ jci_6) (Nat.le_of_ble_eq_true rfl) rfl (fun ls hl => ?_)
        refine lv_goto (tgt := 18) hx hb dL_law_1496 rfl ?_
        exact ih18 M_41 _ _ (v3_1 + 6) _ h hP hS (lv_sub hl [1, 2, 3, 0] rfl)
      replace h := jh_f h c33_19
      by_cases c33_20 : ((xs (Int32.toNatClampNeg v3_1)) &&& 63) = 20
      · replace h := jh_t h c33_20
        refine lv_tableIn (off := 805) (tgt := 838) hx hb dL_law_33 (by rw [c33_20]; decide) (by rw [c33_20]; decide) (by rw [c33_20]; rfl) rfl ?_
        refine lv_aload_n hx hb dL_law_838 rfl (lv_at hl 1 rfl) ?_
        refine lv_aload_n hx hb dL_law_839 rfl (lv_at hl 0 rfl) ?_
        refine lv_iload_n hx hb dL_law_840 rfl (lv_at hl 3 rfl) ?_
        refine lv_iconst (v := 1) hx hb dL_law_841 jci_1 ?_
        refine lv_iadd hx hb dL_law_842 ?_
        obtain ⟨g843, h⟩ := jh_gd h
        refine va_sld hx hb hX hbl hbA hS g843 dL_law_843 ?_
        refine lv_aload_n hx hb dL_law_844 rfl (lv_at hl 0 rfl) ?_
        refine lv_iload_n hx hb dL_law_845 rfl (lv_at hl 3 rfl) ?_
        refine lv_iconst (v := 2) hx hb dL_law_846 jci_2 ?_
        refine lv_iadd hx hb dL_law_847 ?_
        obtain ⟨g848, h⟩ := jh_gd h
        refine va_sld hx hb hX hbl hbA hS g848 dL_law_848 ?_
        obtain ⟨r42, M_42, e42, h⟩ := jh_b2 h
        refine jr_km (jr_rv (As := [.int (xs (Int32.toNatClampNeg (v3_1 + 1))), .int (xs (Int32.toNatClampNeg (v3_1 + 2)))]) (rest := []) S hK hP jb_0 rfl (m_X5_clear l X (fun q : Nat => s.heap.size ≤ q) hs M_1 (xs (Int32.toNatClampNeg (v3_1 + 1))) (xs (Int32.toNatClampNeg (v3_1 + 2))) r42 M_42 e42) jw_X5_clear ji_X5_clear jmL_97 rfl rfl ⟨(Nat.le_of_ble_eq_true rfl), (Nat.le_of_ble_eq_true rfl)⟩ rfl hl.1 rfl (Nat.le_of_ble_eq_true rfl) dL_law_849 ⟨(Nat.le_of_ble_eq_true rfl), (Nat.le_of_ble_eq_true rfl)⟩) hS (fun H locs hP hS => ?_)
        refine lv_pop hx hb dL_law_852 rfl ?_
        refine lv_aload_n hx hb dL_law_853 rfl (lv_at hl 2 rfl) ?_
        refine lv_aload_n hx hb dL_law_854 rfl (lv_at hl 0 rfl) ?_
        refine lv_iload_n hx hb dL_law_855 rfl (lv_at hl 3 rfl) ?_
        refine lv_iconst (v := 1) hx hb dL_law_856 jci_1 ?_
        refine lv_iadd hx hb dL_law_857 ?_
        obtain ⟨g858, h⟩ := jh_gd h
        refine va_sld hx hb hX hbl hbA hS g858 dL_law_858 ?_
        refine lv_aload_n hx hb dL_law_859 rfl (lv_at hl 0 rfl) ?_
        refine lv_iload_n hx hb dL_law_860 rfl (lv_at hl 3 rfl) ?_
        refine lv_iconst (v := 2) hx hb dL_law_861 jci_2 ?_
        refine lv_iadd hx hb dL_law_862 ?_
        obtain ⟨g863, h⟩ := jh_gd h
        refine va_sld hx hb hX hbl hbA hS g863 dL_law_863 ?_
        obtain ⟨r43, M_43, e43, h⟩ := jh_b2 h
        refine jr_km (jr_rv (As := [.int (xs (Int32.toNatClampNeg (v3_1 + 1))), .int (xs (Int32.toNatClampNeg (v3_1 + 2)))]) (rest := []) S hK hP jb_16 rfl (m_X6_clear l X (fun q : Nat => s.heap.size ≤ q) hs M_42 (xs (Int32.toNatClampNeg (v3_1 + 1))) (xs (Int32.toNatClampNeg (v3_1 + 2))) r43 M_43 e43) jw_X6_clear ji_X6_clear jmL_100 rfl rfl ⟨(Nat.le_of_ble_eq_true rfl), (Nat.le_of_ble_eq_true rfl)⟩ rfl hl.1 rfl (Nat.le_of_ble_eq_true rfl) dL_law_864 ⟨(Nat.le_of_ble_eq_true rfl), (Nat.le_of_ble_eq_true rfl)⟩) hS (fun H locs hP hS => ?_)
        refine lv_pop hx hb dL_law_867 rfl ?_
        refine lv_goto (tgt := 1493) hx hb dL_law_868 rfl ?_
        refine lv_iinc (v := (v3_1 + 6)) (lv' := [(3, .int (v3_1 + 6)), (0, .ref b), (1, .ref (jO X 0)), (2, .ref (jO X 16))]) hx hb dL_law_1493 hl (k := 3) rfl (congrArg _ jci_6) (Nat.le_of_ble_eq_true rfl) rfl (fun ls hl => ?_)
        refine lv_goto (tgt := 18) hx hb dL_law_1496 rfl ?_
        exact ih18 M_43 _ _ (v3_1 + 6) _ h hP hS (lv_sub hl [1, 2, 3, 0] rfl)
      replace h := jh_f h c33_20
      by_cases c33_21 : ((xs (Int32.toNatClampNeg v3_1)) &&& 63) = 21
      · replace h := jh_t h c33_21
        refine lv_tableIn (off := 838) (tgt := 871) hx hb dL_law_33 (by rw [c33_21]; decide) (by rw [c33_21]; decide) (by rw [c33_21]; rfl) rfl ?_
        refine lv_aload_n hx hb dL_law_871 rfl (lv_at hl 1 rfl) ?_
        refine lv_aload_n hx hb dL_law_872 rfl (lv_at hl 0 rfl) ?_
        refine lv_iload_n hx hb dL_law_873 rfl (lv_at hl 3 rfl) ?_
        refine lv_iconst (v := 1) hx hb dL_law_874 jci_1 ?_
        refine lv_iadd hx hb dL_law_875 ?_
        obtain ⟨g876, h⟩ := jh_gd h
        refine va_sld hx hb hX hbl hbA hS g876 dL_law_876 ?_
        refine lv_aload_n hx hb dL_law_877 rfl (lv_at hl 0 rfl) ?_
        refine lv_iload_n hx hb dL_law_878 rfl (lv_at hl 3 rfl) ?_
        refine lv_iconst (v := 2) hx hb dL_law_879 jci_2 ?_
        refine lv_iadd hx hb dL_law_880 ?_
        obtain ⟨g881, h⟩ := jh_gd h
        refine va_sld hx hb hX hbl hbA hS g881 dL_law_881 ?_
        obtain ⟨r44, M_44, e44, h⟩ := jh_b2 h
        refine jr_km (jr_rv (As := [.int (xs (Int32.toNatClampNeg (v3_1 + 1))), .int (xs (Int32.toNatClampNeg (v3_1 + 2)))]) (rest := []) S hK hP jb_0 rfl (m_X5_burn l X (fun q : Nat => s.heap.size ≤ q) hs M_1 (xs (Int32.toNatClampNeg (v3_1 + 1))) (xs (Int32.toNatClampNeg (v3_1 + 2))) r44 M_44 e44) jw_X5_burn ji_X5_burn jmL_101 rfl rfl ⟨(Nat.le_of_ble_eq_true rfl), (Nat.le_of_ble_eq_true rfl)⟩ rfl hl.1 rfl (Nat.le_of_ble_eq_true rfl) dL_law_882 ⟨(Nat.le_of_ble_eq_true rfl), (Nat.le_of_ble_eq_true rfl)⟩) hS (fun H locs hP hS => ?_)
        refine lv_pop hx hb dL_law_885 rfl ?_
        refine lv_aload_n hx hb dL_law_886 rfl (lv_at hl 2 rfl) ?_
        refine lv_aload_n hx hb dL_law_887 rfl (lv_at hl 0 rfl) ?_
        refine lv_iload_n hx hb dL_law_888 rfl (lv_at hl 3 rfl) ?_
        refine lv_iconst (v := 1) hx hb dL_law_889 jci_1 ?_
        refine lv_iadd hx hb dL_law_890 ?_
        obtain ⟨g891, h⟩ := jh_gd h
        refine va_sld hx hb hX hbl hbA hS g891 dL_law_891 ?_
        refine lv_aload_n hx hb dL_law_892 rfl (lv_at hl 0 rfl) ?_
        refine lv_iload_n hx hb dL_law_893 rfl (lv_at hl 3 rfl) ?_
        refine lv_iconst (v := 2) hx hb dL_law_894 jci_2 ?_
        refine lv_iadd hx hb dL_law_895 ?_
        obtain ⟨g896, h⟩ := jh_gd h
        refine va_sld hx hb hX hbl hbA hS g896 dL_law_896 ?_
        obtain ⟨r45, M_45, e45, h⟩ := jh_b2 h
        refine jr_km (jr_rv (As := [.int (xs (Int32.toNatClampNeg (v3_1 + 1))), .int (xs (Int32.toNatClampNeg (v3_1 + 2)))]) (rest := []) S hK hP jb_16 rfl (m_X6_burn l X (fun q : Nat => s.heap.size ≤ q) hs M_44 (xs (Int32.toNatClampNeg (v3_1 + 1))) (xs (Int32.toNatClampNeg (v3_1 + 2))) r45 M_45 e45) jw_X6_burn ji_X6_burn jmL_104 rfl rfl ⟨(Nat.le_of_ble_eq_true rfl), (Nat.le_of_ble_eq_true rfl)⟩ rfl hl.1 rfl (Nat.le_of_ble_eq_true rfl) dL_law_897 ⟨(Nat.le_of_ble_eq_true rfl), (Nat.le_of_ble_eq_true rfl)⟩) hS (fun H locs hP hS => ?_)
        refine lv_pop hx hb dL_law_900 rfl ?_
        refine lv_goto (tgt := 1493) hx hb dL_law_901 rfl ?_
        refine lv_iinc (v := (v3_1 + 6)) (lv' := [(3, .int (v3_1 + 6)), (0, .ref b), (1, .ref (jO X 0)), (2, .ref (jO X 16))]) hx hb dL_law_1493 hl (k := 3) rfl (congrArg _ jci_6) (Nat.le_of_ble_eq_true rfl) rfl (fun ls hl => ?_)
        refine lv_goto (tgt := 18) hx hb dL_law_1496 rfl ?_
        exact ih18 M_45 _ _ (v3_1 + 6) _ h hP hS (lv_sub hl [1, 2, 3, 0] rfl)
      replace h := jh_f h c33_21
      by_cases c33_22 : ((xs (Int32.toNatClampNeg v3_1)) &&& 63) = 22
      · replace h := jh_t h c33_22
        refine lv_tableIn (off := 871) (tgt := 904) hx hb dL_law_33 (by rw [c33_22]; decide) (by rw [c33_22]; decide) (by rw [c33_22]; rfl) rfl ?_
        refine lv_aload_n hx hb dL_law_904 rfl (lv_at hl 1 rfl) ?_
        refine lv_aload_n hx hb dL_law_905 rfl (lv_at hl 0 rfl) ?_
        refine lv_iload_n hx hb dL_law_906 rfl (lv_at hl 3 rfl) ?_
        refine lv_iconst (v := 1) hx hb dL_law_907 jci_1 ?_
        refine lv_iadd hx hb dL_law_908 ?_
        obtain ⟨g909, h⟩ := jh_gd h
        refine va_sld hx hb hX hbl hbA hS g909 dL_law_909 ?_
        obtain ⟨r46, M_46, e46, h⟩ := jh_b2 h
        refine jr_km (jr_rv (As := [.int (xs (Int32.toNatClampNeg (v3_1 + 1)))]) (rest := []) S hK hP jb_0 rfl (m_X5_shut l X (fun q : Nat => s.heap.size ≤ q) hs M_1 (xs (Int32.toNatClampNeg (v3_1 + 1))) r46 M_46 e46) jw_X5_shut ji_X5_shut jmL_105 rfl rfl ⟨(Nat.le_of_ble_eq_true rfl), (Nat.le_of_ble_eq_true rfl)⟩ rfl hl.1 rfl (Nat.le_of_ble_eq_true rfl) dL_law_910 ⟨(Nat.le_of_ble_eq_true rfl), (Nat.le_of_ble_eq_true rfl)⟩) hS (fun H locs hP hS => ?_)
        refine lv_pop hx hb dL_law_913 rfl ?_
        refine lv_aload_n hx hb dL_law_914 rfl (lv_at hl 2 rfl) ?_
        refine lv_aload_n hx hb dL_law_915 rfl (lv_at hl 0 rfl) ?_
        refine lv_iload_n hx hb dL_law_916 rfl (lv_at hl 3 rfl) ?_
        refine lv_iconst (v := 1) hx hb dL_law_917 jci_1 ?_
        refine lv_iadd hx hb dL_law_918 ?_
        obtain ⟨g919, h⟩ := jh_gd h
        refine va_sld hx hb hX hbl hbA hS g919 dL_law_919 ?_
        obtain ⟨r47, M_47, e47, h⟩ := jh_b2 h
        refine jr_km (jr_rv (As := [.int (xs (Int32.toNatClampNeg (v3_1 + 1)))]) (rest := []) S hK hP jb_16 rfl (m_X6_shut l X (fun q : Nat => s.heap.size ≤ q) hs M_46 (xs (Int32.toNatClampNeg (v3_1 + 1))) r47 M_47 e47) jw_X6_shut ji_X6_shut jmL_108 rfl rfl ⟨(Nat.le_of_ble_eq_true rfl), (Nat.le_of_ble_eq_true rfl)⟩ rfl hl.1 rfl (Nat.le_of_ble_eq_true rfl) dL_law_920 ⟨(Nat.le_of_ble_eq_true rfl), (Nat.le_of_ble_eq_true rfl)⟩) hS (fun H locs hP hS => ?_)
        refine lv_pop hx hb dL_law_923 rfl ?_
        refine lv_goto (tgt := 1493) hx hb dL_law_924 rfl ?_
        refine lv_iinc (v := (v3_1 + 6)) (lv' := [(3, .int (v3_1 + 6)), (0, .ref b), (1, .ref (jO X 0)), (2, .ref (jO X 16))]) hx hb dL_law_1493 hl (k := 3) rfl (congrArg _ jci_6) (Nat.le_of_ble_eq_true rfl) rfl (fun ls hl => ?_)
        refine lv_goto (tgt := 18) hx hb dL_law_1496 rfl ?_
        exact ih18 M_47 _ _ (v3_1 + 6) _ h hP hS (lv_sub hl [1, 2, 3, 0] rfl)
      replace h := jh_f h c33_22
      by_cases c33_23 : ((xs (Int32.toNatClampNeg v3_1)) &&& 63) = 23
      · replace h := jh_t h c33_23
        refine lv_tableIn (off := 894) (tgt := 927) hx hb dL_law_33 (by rw [c33_23]; decide) (by rw [c33_23]; decide) (by rw [c33_23]; rfl) rfl ?_
        refine lv_aload_n hx hb dL_law_927 rfl (lv_at hl 1 rfl) ?_
        refine lv_aload_n hx hb dL_law_928 rfl (lv_at hl 0 rfl) ?_
        refine lv_iload_n hx hb dL_law_929 rfl (lv_at hl 3 rfl) ?_
        refine lv_iconst (v := 1) hx hb dL_law_930 jci_1 ?_
        refine lv_iadd hx hb dL_law_931 ?_
        obtain ⟨g932, h⟩ := jh_gd h
        refine va_sld hx hb hX hbl hbA hS g932 dL_law_932 ?_
        refine lv_aload_n hx hb dL_law_933 rfl (lv_at hl 0 rfl) ?_
        refine lv_iload_n hx hb dL_law_934 rfl (lv_at hl 3 rfl) ?_
        refine lv_iconst (v := 2) hx hb dL_law_935 jci_2 ?_
        refine lv_iadd hx hb dL_law_936 ?_
        obtain ⟨g937, h⟩ := jh_gd h
        refine va_sld hx hb hX hbl hbA hS g937 dL_law_937 ?_
        obtain ⟨r48, M_48, e48, h⟩ := jh_b2 h
        refine jr_km (jr_rv (As := [.int (xs (Int32.toNatClampNeg (v3_1 + 1))), .int (xs (Int32.toNatClampNeg (v3_1 + 2)))]) (rest := []) S hK hP jb_0 rfl (m_X5_trade l X (fun q : Nat => s.heap.size ≤ q) hs M_1 (xs (Int32.toNatClampNeg (v3_1 + 1))) (xs (Int32.toNatClampNeg (v3_1 + 2))) r48 M_48 e48) jw_X5_trade ji_X5_trade jmL_109 rfl rfl ⟨(Nat.le_of_ble_eq_true rfl), (Nat.le_of_ble_eq_true rfl)⟩ rfl hl.1 rfl (Nat.le_of_ble_eq_true rfl) dL_law_938 ⟨(Nat.le_of_ble_eq_true rfl), (Nat.le_of_ble_eq_true rfl)⟩) hS (fun H locs hP hS => ?_)
        refine lv_pop hx hb dL_law_941 rfl ?_
        refine lv_aload_n hx hb dL_law_942 rfl (lv_at hl 2 rfl) ?_
        refine lv_aload_n hx hb dL_law_943 rfl (lv_at hl 0 rfl) ?_
        refine lv_iload_n hx hb dL_law_944 rfl (lv_at hl 3 rfl) ?_
        refine lv_iconst (v := 1) hx hb dL_law_945 jci_1 ?_
        refine lv_iadd hx hb dL_law_946 ?_
        obtain ⟨g947, h⟩ := jh_gd h
        refine va_sld hx hb hX hbl hbA hS g947 dL_law_947 ?_
        refine lv_aload_n hx hb dL_law_948 rfl (lv_at hl 0 rfl) ?_
        refine lv_iload_n hx hb dL_law_949 rfl (lv_at hl 3 rfl) ?_
        refine lv_iconst (v := 2) hx hb dL_law_950 jci_2 ?_
        refine lv_iadd hx hb dL_law_951 ?_
        obtain ⟨g952, h⟩ := jh_gd h
        refine va_sld hx hb hX hbl hbA hS g952 dL_law_952 ?_
        obtain ⟨r49, M_49, e49, h⟩ := jh_b2 h
        refine jr_km (jr_rv (As := [.int (xs (Int32.toNatClampNeg (v3_1 + 1))), .int (xs (Int32.toNatClampNeg (v3_1 + 2)))]) (rest := []) S hK hP jb_16 rfl (m_X6_trade l X (fun q : Nat => s.heap.size ≤ q) hs M_48 (xs (Int32.toNatClampNeg (v3_1 + 1))) (xs (Int32.toNatClampNeg (v3_1 + 2))) r49 M_49 e49) jw_X6_trade ji_X6_trade jmL_112 rfl rfl ⟨(Nat.le_of_ble_eq_true rfl), (Nat.le_of_ble_eq_true rfl)⟩ rfl hl.1 rfl (Nat.le_of_ble_eq_true rfl) dL_law_953 ⟨(Nat.le_of_ble_eq_true rfl), (Nat.le_of_ble_eq_true rfl)⟩) hS (fun H locs hP hS => ?_)
        refine lv_pop hx hb dL_law_956 rfl ?_
        refine lv_goto (tgt := 1493) hx hb dL_law_957 rfl ?_
        refine lv_iinc (v := (v3_1 + 6)) (lv' := [(3, .int (v3_1 + 6)), (0, .ref b), (1, .ref (jO X 0)), (2, .ref (jO X 16))]) hx hb dL_law_1493 hl (k := 3) rfl (congrArg _ jci_6) (Nat.le_of_ble_eq_true rfl) rfl (fun ls hl => ?_)
        refine lv_goto (tgt := 18) hx hb dL_law_1496 rfl ?_
        exact ih18 M_49 _ _ (v3_1 + 6) _ h hP hS (lv_sub hl [1, 2, 3, 0] rfl)
      replace h := jh_f h c33_23
      by_cases c33_24 : ((xs (Int32.toNatClampNeg v3_1)) &&& 63) = 24
      · replace h := jh_t h c33_24
        refine lv_tableIn (off := 927) (tgt := 960) hx hb dL_law_33 (by rw [c33_24]; decide) (by rw [c33_24]; decide) (by rw [c33_24]; rfl) rfl ?_
        refine lv_aload_n hx hb dL_law_960 rfl (lv_at hl 1 rfl) ?_
        refine lv_aload_n hx hb dL_law_961 rfl (lv_at hl 0 rfl) ?_
        refine lv_iload_n hx hb dL_law_962 rfl (lv_at hl 3 rfl) ?_
        refine lv_iconst (v := 1) hx hb dL_law_963 jci_1 ?_
        refine lv_iadd hx hb dL_law_964 ?_
        obtain ⟨g965, h⟩ := jh_gd h
        refine va_sld hx hb hX hbl hbA hS g965 dL_law_965 ?_
        obtain ⟨r50, M_50, e50, h⟩ := jh_b2 h
        refine jr_km (jr_rv (As := [.int (xs (Int32.toNatClampNeg (v3_1 + 1)))]) (rest := []) S hK hP jb_0 rfl (m_X5_whoWent l X (fun q : Nat => s.heap.size ≤ q) hs M_1 (xs (Int32.toNatClampNeg (v3_1 + 1))) r50 M_50 e50) jw_X5_whoWent ji_X5_whoWent jmL_113 rfl rfl ⟨(Nat.le_of_ble_eq_true rfl), (Nat.le_of_ble_eq_true rfl)⟩ rfl hl.1 rfl (Nat.le_of_ble_eq_true rfl) dL_law_966 ⟨(Nat.le_of_ble_eq_true rfl), (Nat.le_of_ble_eq_true rfl)⟩) hS (fun H locs hP hS => ?_)
        refine lv_pop hx hb dL_law_969 rfl ?_
        refine lv_aload_n hx hb dL_law_970 rfl (lv_at hl 2 rfl) ?_
        refine lv_aload_n hx hb dL_law_971 rfl (lv_at hl 0 rfl) ?_
        refine lv_iload_n hx hb dL_law_972 rfl (lv_at hl 3 rfl) ?_
        refine lv_iconst (v := 1) hx hb dL_law_973 jci_1 ?_
        refine lv_iadd hx hb dL_law_974 ?_
        obtain ⟨g975, h⟩ := jh_gd h
        refine va_sld hx hb hX hbl hbA hS g975 dL_law_975 ?_
        obtain ⟨r51, M_51, e51, h⟩ := jh_b2 h
        refine jr_km (jr_rv (As := [.int (xs (Int32.toNatClampNeg (v3_1 + 1)))]) (rest := []) S hK hP jb_16 rfl (m_X6_whoWent l X (fun q : Nat => s.heap.size ≤ q) hs M_50 (xs (Int32.toNatClampNeg (v3_1 + 1))) r51 M_51 e51) jw_X6_whoWent ji_X6_whoWent jmL_116 rfl rfl ⟨(Nat.le_of_ble_eq_true rfl), (Nat.le_of_ble_eq_true rfl)⟩ rfl hl.1 rfl (Nat.le_of_ble_eq_true rfl) dL_law_976 ⟨(Nat.le_of_ble_eq_true rfl), (Nat.le_of_ble_eq_true rfl)⟩) hS (fun H locs hP hS => ?_)
        refine lv_pop hx hb dL_law_979 rfl ?_
        refine lv_goto (tgt := 1493) hx hb dL_law_980 rfl ?_
        refine lv_iinc (v := (v3_1 + 6)) (lv' := [(3, .int (v3_1 + 6)), (0, .ref b), (1, .ref (jO X 0)), (2, .ref (jO X 16))]) hx hb dL_law_1493 hl (k := 3) rfl (congrArg _ jci_6) (Nat.le_of_ble_eq_true rfl) rfl (fun ls hl => ?_)
        refine lv_goto (tgt := 18) hx hb dL_law_1496 rfl ?_
        exact ih18 M_51 _ _ (v3_1 + 6) _ h hP hS (lv_sub hl [1, 2, 3, 0] rfl)
      replace h := jh_f h c33_24
      by_cases c33_25 : ((xs (Int32.toNatClampNeg v3_1)) &&& 63) = 25
      · replace h := jh_t h c33_25
        refine lv_tableIn (off := 950) (tgt := 983) hx hb dL_law_33 (by rw [c33_25]; decide) (by rw [c33_25]; decide) (by rw [c33_25]; rfl) rfl ?_
        refine lv_aload_n hx hb dL_law_983 rfl (lv_at hl 1 rfl) ?_
        refine lv_aload_n hx hb dL_law_984 rfl (lv_at hl 0 rfl) ?_
        refine lv_iload_n hx hb dL_law_985 rfl (lv_at hl 3 rfl) ?_
        refine lv_iconst (v := 1) hx hb dL_law_986 jci_1 ?_
        refine lv_iadd hx hb dL_law_987 ?_
        obtain ⟨g988, h⟩ := jh_gd h
        refine va_sld hx hb hX hbl hbA hS g988 dL_law_988 ?_
        obtain ⟨r52, M_52, e52, h⟩ := jh_b2 h
        refine jr_km (jr_rv (As := [.int (xs (Int32.toNatClampNeg (v3_1 + 1)))]) (rest := []) S hK hP jb_0 rfl (m_X5_spread l X (fun q : Nat => s.heap.size ≤ q) hs M_1 (xs (Int32.toNatClampNeg (v3_1 + 1))) r52 M_52 e52) jw_X5_spread ji_X5_spread jmL_117 rfl rfl ⟨(Nat.le_of_ble_eq_true rfl), (Nat.le_of_ble_eq_true rfl)⟩ rfl hl.1 rfl (Nat.le_of_ble_eq_true rfl) dL_law_989 ⟨(Nat.le_of_ble_eq_true rfl), (Nat.le_of_ble_eq_true rfl)⟩) hS (fun H locs hP hS => ?_)
        refine lv_pop hx hb dL_law_992 rfl ?_
        refine lv_aload_n hx hb dL_law_993 rfl (lv_at hl 2 rfl) ?_
        refine lv_aload_n hx hb dL_law_994 rfl (lv_at hl 0 rfl) ?_
        refine lv_iload_n hx hb dL_law_995 rfl (lv_at hl 3 rfl) ?_
        refine lv_iconst (v := 1) hx hb dL_law_996 jci_1 ?_
        refine lv_iadd hx hb dL_law_997 ?_
        obtain ⟨g998, h⟩ := jh_gd h
        refine va_sld hx hb hX hbl hbA hS g998 dL_law_998 ?_
        obtain ⟨r53, M_53, e53, h⟩ := jh_b2 h
        refine jr_km (jr_rv (As := [.int (xs (Int32.toNatClampNeg (v3_1 + 1)))]) (rest := []) S hK hP jb_16 rfl (m_X6_spread l X (fun q : Nat => s.heap.size ≤ q) hs M_52 (xs (Int32.toNatClampNeg (v3_1 + 1))) r53 M_53 e53) jw_X6_spread ji_X6_spread jmL_120 rfl rfl ⟨(Nat.le_of_ble_eq_true rfl), (Nat.le_of_ble_eq_true rfl)⟩ rfl hl.1 rfl (Nat.le_of_ble_eq_true rfl) dL_law_999 ⟨(Nat.le_of_ble_eq_true rfl), (Nat.le_of_ble_eq_true rfl)⟩) hS (fun H locs hP hS => ?_)
        refine lv_pop hx hb dL_law_1002 rfl ?_
        refine lv_goto (tgt := 1493) hx hb dL_law_1003 rfl ?_
        refine lv_iinc (v := (v3_1 + 6)) (lv' := [(3, .int (v3_1 + 6)), (0, .ref b), (1, .ref (jO X 0)), (2, .ref (jO X 16))]) hx hb dL_law_1493 hl (k := 3) rfl (congrArg _ jci_6) (Nat.le_of_ble_eq_true rfl) rfl (fun ls hl => ?_)
        refine lv_goto (tgt := 18) hx hb dL_law_1496 rfl ?_
        exact ih18 M_53 _ _ (v3_1 + 6) _ h hP hS (lv_sub hl [1, 2, 3, 0] rfl)
      replace h := jh_f h c33_25
      by_cases c33_26 : ((xs (Int32.toNatClampNeg v3_1)) &&& 63) = 26
      · replace h := jh_t h c33_26
        refine lv_tableIn (off := 973) (tgt := 1006) hx hb dL_law_33 (by rw [c33_26]; decide) (by rw [c33_26]; decide) (by rw [c33_26]; rfl) rfl ?_
        refine lv_aload_n hx hb dL_law_1006 rfl (lv_at hl 1 rfl) ?_
        refine lv_aload_n hx hb dL_law_1007 rfl (lv_at hl 0 rfl) ?_
        refine lv_iload_n hx hb dL_law_1008 rfl (lv_at hl 3 rfl) ?_
        refine lv_iconst (v := 1) hx hb dL_law_1009 jci_1 ?_
        refine lv_iadd hx hb dL_law_1010 ?_
        obtain ⟨g1011, h⟩ := jh_gd h
        refine va_sld hx hb hX hbl hbA hS g1011 dL_law_1011 ?_
        refine lv_aload_n hx hb dL_law_1012 rfl (lv_at hl 0 rfl) ?_
        refine lv_iload_n hx hb dL_law_1013 rfl (lv_at hl 3 rfl) ?_
        refine lv_iconst (v := 2) hx hb dL_law_1014 jci_2 ?_
        refine lv_iadd hx hb dL_law_1015 ?_
        obtain ⟨g1016, h⟩ := jh_gd h
        refine va_sld hx hb hX hbl hbA hS g1016 dL_law_1016 ?_
        refine lv_aload_n hx hb dL_law_1017 rfl (lv_at hl 0 rfl) ?_
        refine lv_iload_n hx hb dL_law_1018 rfl (lv_at hl 3 rfl) ?_
        refine lv_iconst (v := 3) hx hb dL_law_1019 jci_3 ?_
        refine lv_iadd hx hb dL_law_1020 ?_
        obtain ⟨g1021, h⟩ := jh_gd h
        refine va_sld hx hb hX hbl hbA hS g1021 dL_law_1021 ?_
        obtain ⟨r54, M_54, e54, h⟩ := jh_b2 h
        refine jr_km (jr_rv (As := [.int (xs (Int32.toNatClampNeg (v3_1 + 1))), .int (xs (Int32.toNatClampNeg (v3_1 + 2))), .int (xs (Int32.toNatClampNeg (v3_1 + 3)))]) (rest := []) S hK hP jb_0 rfl (m_X5_whatKind l X (fun q : Nat => s.heap.size ≤ q) hs M_1 (xs (Int32.toNatClampNeg (v3_1 + 1))) (xs (Int32.toNatClampNeg (v3_1 + 2))) (xs (Int32.toNatClampNeg (v3_1 + 3))) r54 M_54 e54) jw_X5_whatKind ji_X5_whatKind jmL_121 rfl rfl ⟨(Nat.le_of_ble_eq_true rfl), (Nat.le_of_ble_eq_true rfl)⟩ rfl hl.1 rfl (Nat.le_of_ble_eq_true rfl) dL_law_1022 ⟨(Nat.le_of_ble_eq_true rfl), (Nat.le_of_ble_eq_true rfl)⟩) hS (fun H locs hP hS => ?_)
        refine lv_pop hx hb dL_law_1025 rfl ?_
        refine lv_aload_n hx hb dL_law_1026 rfl (lv_at hl 2 rfl) ?_
        refine lv_aload_n hx hb dL_law_1027 rfl (lv_at hl 0 rfl) ?_
        refine lv_iload_n hx hb dL_law_1028 rfl (lv_at hl 3 rfl) ?_
        refine lv_iconst (v := 1) hx hb dL_law_1029 jci_1 ?_
        refine lv_iadd hx hb dL_law_1030 ?_
        obtain ⟨g1031, h⟩ := jh_gd h
        refine va_sld hx hb hX hbl hbA hS g1031 dL_law_1031 ?_
        refine lv_aload_n hx hb dL_law_1032 rfl (lv_at hl 0 rfl) ?_
        refine lv_iload_n hx hb dL_law_1033 rfl (lv_at hl 3 rfl) ?_
        refine lv_iconst (v := 2) hx hb dL_law_1034 jci_2 ?_
        refine lv_iadd hx hb dL_law_1035 ?_
        obtain ⟨g1036, h⟩ := jh_gd h
        refine va_sld hx hb hX hbl hbA hS g1036 dL_law_1036 ?_
        refine lv_aload_n hx hb dL_law_1037 rfl (lv_at hl 0 rfl) ?_
        refine lv_iload_n hx hb dL_law_1038 rfl (lv_at hl 3 rfl) ?_
        refine lv_iconst (v := 3) hx hb dL_law_1039 jci_3 ?_
        refine lv_iadd hx hb dL_law_1040 ?_
        obtain ⟨g1041, h⟩ := jh_gd h
        refine va_sld hx hb hX hbl hbA hS g1041 dL_law_1041 ?_
        obtain ⟨r55, M_55, e55, h⟩ := jh_b2 h
        refine jr_km (jr_rv (As := [.int (xs (Int32.toNatClampNeg (v3_1 + 1))), .int (xs (Int32.toNatClampNeg (v3_1 + 2))), .int (xs (Int32.toNatClampNeg (v3_1 + 3)))]) (rest := []) S hK hP jb_16 rfl (m_X6_whatKind l X (fun q : Nat => s.heap.size ≤ q) hs M_54 (xs (Int32.toNatClampNeg (v3_1 + 1))) (xs (Int32.toNatClampNeg (v3_1 + 2))) (xs (Int32.toNatClampNeg (v3_1 + 3))) r55 M_55 e55) jw_X6_whatKind ji_X6_whatKind jmL_124 rfl rfl ⟨(Nat.le_of_ble_eq_true rfl), (Nat.le_of_ble_eq_true rfl)⟩ rfl hl.1 rfl (Nat.le_of_ble_eq_true rfl) dL_law_1042 ⟨(Nat.le_of_ble_eq_true rfl), (Nat.le_of_ble_eq_true rfl)⟩) hS (fun H locs hP hS => ?_)
        refine lv_pop hx hb dL_law_1045 rfl ?_
        refine lv_goto (tgt := 1493) hx hb dL_law_1046 rfl ?_
        refine lv_iinc (v := (v3_1 + 6)) (lv' := [(3, .int (v3_1 + 6)), (0, .ref b), (1, .ref (jO X 0)), (2, .ref (jO X 16))]) hx hb dL_law_1493 hl (k := 3) rfl (congrArg _ jci_6) (Nat.le_of_ble_eq_true rfl) rfl (fun ls hl => ?_)
        refine lv_goto (tgt := 18) hx hb dL_law_1496 rfl ?_
        exact ih18 M_55 _ _ (v3_1 + 6) _ h hP hS (lv_sub hl [1, 2, 3, 0] rfl)
      replace h := jh_f h c33_26
      by_cases c33_27 : ((xs (Int32.toNatClampNeg v3_1)) &&& 63) = 27
      · replace h := jh_t h c33_27
        refine lv_tableIn (off := 1016) (tgt := 1049) hx hb dL_law_33 (by rw [c33_27]; decide) (by rw [c33_27]; decide) (by rw [c33_27]; rfl) rfl ?_
        refine lv_aload_n hx hb dL_law_1049 rfl (lv_at hl 1 rfl) ?_
        refine lv_aload_n hx hb dL_law_1050 rfl (lv_at hl 0 rfl) ?_
        refine lv_iload_n hx hb dL_law_1051 rfl (lv_at hl 3 rfl) ?_
        refine lv_iconst (v := 1) hx hb dL_law_1052 jci_1 ?_
        refine lv_iadd hx hb dL_law_1053 ?_
        obtain ⟨g1054, h⟩ := jh_gd h
        refine va_sld hx hb hX hbl hbA hS g1054 dL_law_1054 ?_
        refine lv_aload_n hx hb dL_law_1055 rfl (lv_at hl 0 rfl) ?_
        refine lv_iload_n hx hb dL_law_1056 rfl (lv_at hl 3 rfl) ?_
        refine lv_iconst (v := 2) hx hb dL_law_1057 jci_2 ?_
        refine lv_iadd hx hb dL_law_1058 ?_
        obtain ⟨g1059, h⟩ := jh_gd h
        refine va_sld hx hb hX hbl hbA hS g1059 dL_law_1059 ?_
        refine lv_aload_n hx hb dL_law_1060 rfl (lv_at hl 0 rfl) ?_
        refine lv_iload_n hx hb dL_law_1061 rfl (lv_at hl 3 rfl) ?_
        refine lv_iconst (v := 3) hx hb dL_law_1062 jci_3 ?_
        refine lv_iadd hx hb dL_law_1063 ?_
        obtain ⟨g1064, h⟩ := jh_gd h
        refine va_sld hx hb hX hbl hbA hS g1064 dL_law_1064 ?_
        obtain ⟨r56, M_56, e56, h⟩ := jh_b2 h
        refine jr_km (jr_rv (As := [.int (xs (Int32.toNatClampNeg (v3_1 + 1))), .int (xs (Int32.toNatClampNeg (v3_1 + 2))), .int (xs (Int32.toNatClampNeg (v3_1 + 3)))]) (rest := []) S hK hP jb_0 rfl (m_X5_two l X (fun q : Nat => s.heap.size ≤ q) hs M_1 (xs (Int32.toNatClampNeg (v3_1 + 1))) (xs (Int32.toNatClampNeg (v3_1 + 2))) (xs (Int32.toNatClampNeg (v3_1 + 3))) r56 M_56 e56) jw_X5_two ji_X5_two jmL_125 rfl rfl ⟨(Nat.le_of_ble_eq_true rfl), (Nat.le_of_ble_eq_true rfl)⟩ rfl hl.1 rfl (Nat.le_of_ble_eq_true rfl) dL_law_1065 ⟨(Nat.le_of_ble_eq_true rfl), (Nat.le_of_ble_eq_true rfl)⟩) hS (fun H locs hP hS => ?_)
        refine lv_pop hx hb dL_law_1068 rfl ?_
        refine lv_aload_n hx hb dL_law_1069 rfl (lv_at hl 2 rfl) ?_
        refine lv_aload_n hx hb dL_law_1070 rfl (lv_at hl 0 rfl) ?_
        refine lv_iload_n hx hb dL_law_1071 rfl (lv_at hl 3 rfl) ?_
        refine lv_iconst (v := 1) hx hb dL_law_1072 jci_1 ?_
        refine lv_iadd hx hb dL_law_1073 ?_
        obtain ⟨g1074, h⟩ := jh_gd h
        refine va_sld hx hb hX hbl hbA hS g1074 dL_law_1074 ?_
        refine lv_aload_n hx hb dL_law_1075 rfl (lv_at hl 0 rfl) ?_
        refine lv_iload_n hx hb dL_law_1076 rfl (lv_at hl 3 rfl) ?_
        refine lv_iconst (v := 2) hx hb dL_law_1077 jci_2 ?_
        refine lv_iadd hx hb dL_law_1078 ?_
        obtain ⟨g1079, h⟩ := jh_gd h
        refine va_sld hx hb hX hbl hbA hS g1079 dL_law_1079 ?_
        refine lv_aload_n hx hb dL_law_1080 rfl (lv_at hl 0 rfl) ?_
        refine lv_iload_n hx hb dL_law_1081 rfl (lv_at hl 3 rfl) ?_
        refine lv_iconst (v := 3) hx hb dL_law_1082 jci_3 ?_
        refine lv_iadd hx hb dL_law_1083 ?_
        obtain ⟨g1084, h⟩ := jh_gd h
        refine va_sld hx hb hX hbl hbA hS g1084 dL_law_1084 ?_
        obtain ⟨r57, M_57, e57, h⟩ := jh_b2 h
        refine jr_km (jr_rv (As := [.int (xs (Int32.toNatClampNeg (v3_1 + 1))), .int (xs (Int32.toNatClampNeg (v3_1 + 2))), .int (xs (Int32.toNatClampNeg (v3_1 + 3)))]) (rest := []) S hK hP jb_16 rfl (m_X6_two l X (fun q : Nat => s.heap.size ≤ q) hs M_56 (xs (Int32.toNatClampNeg (v3_1 + 1))) (xs (Int32.toNatClampNeg (v3_1 + 2))) (xs (Int32.toNatClampNeg (v3_1 + 3))) r57 M_57 e57) jw_X6_two ji_X6_two jmL_128 rfl rfl ⟨(Nat.le_of_ble_eq_true rfl), (Nat.le_of_ble_eq_true rfl)⟩ rfl hl.1 rfl (Nat.le_of_ble_eq_true rfl) dL_law_1085 ⟨(Nat.le_of_ble_eq_true rfl), (Nat.le_of_ble_eq_true rfl)⟩) hS (fun H locs hP hS => ?_)
        refine lv_pop hx hb dL_law_1088 rfl ?_
        refine lv_goto (tgt := 1493) hx hb dL_law_1089 rfl ?_
        refine lv_iinc (v := (v3_1 + 6)) (lv' := [(3, .int (v3_1 + 6)), (0, .ref b), (1, .ref (jO X 0)), (2, .ref (jO X 16))]) hx hb dL_law_1493 hl (k := 3) rfl (congrArg _ jci_6) (Nat.le_of_ble_eq_true rfl) rfl (fun ls hl => ?_)
        refine lv_goto (tgt := 18) hx hb dL_law_1496 rfl ?_
        exact ih18 M_57 _ _ (v3_1 + 6) _ h hP hS (lv_sub hl [1, 2, 3, 0] rfl)
      replace h := jh_f h c33_27
      by_cases c33_28 : ((xs (Int32.toNatClampNeg v3_1)) &&& 63) = 28
      · replace h := jh_t h c33_28
        refine lv_tableIn (off := 1059) (tgt := 1092) hx hb dL_law_33 (by rw [c33_28]; decide) (by rw [c33_28]; decide) (by rw [c33_28]; rfl) rfl ?_
        refine lv_aload_n hx hb dL_law_1092 rfl (lv_at hl 1 rfl) ?_
        refine lv_aload_n hx hb dL_law_1093 rfl (lv_at hl 0 rfl) ?_
        refine lv_iload_n hx hb dL_law_1094 rfl (lv_at hl 3 rfl) ?_
        refine lv_iconst (v := 1) hx hb dL_law_1095 jci_1 ?_
        refine lv_iadd hx hb dL_law_1096 ?_
        obtain ⟨g1097, h⟩ := jh_gd h
        refine va_sld hx hb hX hbl hbA hS g1097 dL_law_1097 ?_
        refine lv_aload_n hx hb dL_law_1098 rfl (lv_at hl 0 rfl) ?_
        refine lv_iload_n hx hb dL_law_1099 rfl (lv_at hl 3 rfl) ?_
        refine lv_iconst (v := 2) hx hb dL_law_1100 jci_2 ?_
        refine lv_iadd hx hb dL_law_1101 ?_
        obtain ⟨g1102, h⟩ := jh_gd h
        refine va_sld hx hb hX hbl hbA hS g1102 dL_law_1102 ?_
        refine lv_aload_n hx hb dL_law_1103 rfl (lv_at hl 0 rfl) ?_
        refine lv_iload_n hx hb dL_law_1104 rfl (lv_at hl 3 rfl) ?_
        refine lv_iconst (v := 3) hx hb dL_law_1105 jci_3 ?_
        refine lv_iadd hx hb dL_law_1106 ?_
        obtain ⟨g1107, h⟩ := jh_gd h
        refine va_sld hx hb hX hbl hbA hS g1107 dL_law_1107 ?_
        refine lv_aload_n hx hb dL_law_1108 rfl (lv_at hl 0 rfl) ?_
        refine lv_iload_n hx hb dL_law_1109 rfl (lv_at hl 3 rfl) ?_
        refine lv_iconst (v := 4) hx hb dL_law_1110 jci_4 ?_
        refine lv_iadd hx hb dL_law_1111 ?_
        obtain ⟨g1112, h⟩ := jh_gd h
        refine va_sld hx hb hX hbl hbA hS g1112 dL_law_1112 ?_
        refine lv_aload_n hx hb dL_law_1113 rfl (lv_at hl 0 rfl) ?_
        refine lv_iload_n hx hb dL_law_1114 rfl (lv_at hl 3 rfl) ?_
        refine lv_iconst (v := 5) hx hb dL_law_1115 jci_5 ?_
        refine lv_iadd hx hb dL_law_1116 ?_
        obtain ⟨g1117, h⟩ := jh_gd h
        refine va_sld hx hb hX hbl hbA hS g1117 dL_law_1117 ?_
        obtain ⟨r58, M_58, e58, h⟩ := jh_b2 h
        refine jr_km (jr_rv (As := [.int (xs (Int32.toNatClampNeg (v3_1 + 1))), .int (xs (Int32.toNatClampNeg (v3_1 + 2))), .int (xs (Int32.toNatClampNeg (v3_1 + 3))), .int (xs (Int32.toNatClampNeg (v3_1 + 4))), .int (xs (Int32.toNatClampNeg (v3_1 + 5)))]) (rest := []) S hK hP jb_0 rfl (m_X5_mist l X (fun q : Nat => s.heap.size ≤ q) hs M_1 (xs (Int32.toNatClampNeg (v3_1 + 1))) (xs (Int32.toNatClampNeg (v3_1 + 2))) (xs (Int32.toNatClampNeg (v3_1 + 3))) (xs (Int32.toNatClampNeg (v3_1 + 4))) (xs (Int32.toNatClampNeg (v3_1 + 5))) r58 M_58 e58) jw_X5_mist ji_X5_mist jmL_129 rfl rfl ⟨(Nat.le_of_ble_eq_true rfl), (Nat.le_of_ble_eq_true rfl)⟩ rfl hl.1 rfl (Nat.le_of_ble_eq_true rfl) dL_law_1118 ⟨(Nat.le_of_ble_eq_true rfl), (Nat.le_of_ble_eq_true rfl)⟩) hS (fun H locs hP hS => ?_)
        refine lv_pop2_2 hx hb dL_law_1121 rfl ?_
        refine lv_aload_n hx hb dL_law_1122 rfl (lv_at hl 2 rfl) ?_
        refine lv_aload_n hx hb dL_law_1123 rfl (lv_at hl 0 rfl) ?_
        refine lv_iload_n hx hb dL_law_1124 rfl (lv_at hl 3 rfl) ?_
        refine lv_iconst (v := 1) hx hb dL_law_1125 jci_1 ?_
        refine lv_iadd hx hb dL_law_1126 ?_
        obtain ⟨g1127, h⟩ := jh_gd h
        refine va_sld hx hb hX hbl hbA hS g1127 dL_law_1127 ?_
        refine lv_aload_n hx hb dL_law_1128 rfl (lv_at hl 0 rfl) ?_
        refine lv_iload_n hx hb dL_law_1129 rfl (lv_at hl 3 rfl) ?_
        refine lv_iconst (v := 2) hx hb dL_law_1130 jci_2 ?_
        refine lv_iadd hx hb dL_law_1131 ?_
        obtain ⟨g1132, h⟩ := jh_gd h
        refine va_sld hx hb hX hbl hbA hS g1132 dL_law_1132 ?_
        refine lv_aload_n hx hb dL_law_1133 rfl (lv_at hl 0 rfl) ?_
        refine lv_iload_n hx hb dL_law_1134 rfl (lv_at hl 3 rfl) ?_
        refine lv_iconst (v := 3) hx hb dL_law_1135 jci_3 ?_
        refine lv_iadd hx hb dL_law_1136 ?_
        obtain ⟨g1137, h⟩ := jh_gd h
        refine va_sld hx hb hX hbl hbA hS g1137 dL_law_1137 ?_
        refine lv_aload_n hx hb dL_law_1138 rfl (lv_at hl 0 rfl) ?_
        refine lv_iload_n hx hb dL_law_1139 rfl (lv_at hl 3 rfl) ?_
        refine lv_iconst (v := 4) hx hb dL_law_1140 jci_4 ?_
        refine lv_iadd hx hb dL_law_1141 ?_
        obtain ⟨g1142, h⟩ := jh_gd h
        refine va_sld hx hb hX hbl hbA hS g1142 dL_law_1142 ?_
        refine lv_aload_n hx hb dL_law_1143 rfl (lv_at hl 0 rfl) ?_
        refine lv_iload_n hx hb dL_law_1144 rfl (lv_at hl 3 rfl) ?_
        refine lv_iconst (v := 5) hx hb dL_law_1145 jci_5 ?_
        refine lv_iadd hx hb dL_law_1146 ?_
        obtain ⟨g1147, h⟩ := jh_gd h
        refine va_sld hx hb hX hbl hbA hS g1147 dL_law_1147 ?_
        obtain ⟨r59, M_59, e59, h⟩ := jh_b2 h
        refine jr_km (jr_rv (As := [.int (xs (Int32.toNatClampNeg (v3_1 + 1))), .int (xs (Int32.toNatClampNeg (v3_1 + 2))), .int (xs (Int32.toNatClampNeg (v3_1 + 3))), .int (xs (Int32.toNatClampNeg (v3_1 + 4))), .int (xs (Int32.toNatClampNeg (v3_1 + 5)))]) (rest := []) S hK hP jb_16 rfl (m_X6_mist l X (fun q : Nat => s.heap.size ≤ q) hs M_58 (xs (Int32.toNatClampNeg (v3_1 + 1))) (xs (Int32.toNatClampNeg (v3_1 + 2))) (xs (Int32.toNatClampNeg (v3_1 + 3))) (xs (Int32.toNatClampNeg (v3_1 + 4))) (xs (Int32.toNatClampNeg (v3_1 + 5))) r59 M_59 e59) jw_X6_mist ji_X6_mist jmL_133 rfl rfl ⟨(Nat.le_of_ble_eq_true rfl), (Nat.le_of_ble_eq_true rfl)⟩ rfl hl.1 rfl (Nat.le_of_ble_eq_true rfl) dL_law_1148 ⟨(Nat.le_of_ble_eq_true rfl), (Nat.le_of_ble_eq_true rfl)⟩) hS (fun H locs hP hS => ?_)
        refine lv_pop2_2 hx hb dL_law_1151 rfl ?_
        refine lv_goto (tgt := 1493) hx hb dL_law_1152 rfl ?_
        refine lv_iinc (v := (v3_1 + 6)) (lv' := [(3, .int (v3_1 + 6)), (0, .ref b), (1, .ref (jO X 0)), (2, .ref (jO X 16))]) hx hb dL_law_1493 hl (k := 3) rfl (congrArg _ jci_6) (Nat.le_of_ble_eq_true rfl) rfl (fun ls hl => ?_)
        refine lv_goto (tgt := 18) hx hb dL_law_1496 rfl ?_
        exact ih18 M_59 _ _ (v3_1 + 6) _ h hP hS (lv_sub hl [1, 2, 3, 0] rfl)
      replace h := jh_f h c33_28
      by_cases c33_29 : ((xs (Int32.toNatClampNeg v3_1)) &&& 63) = 29
      · replace h := jh_t h c33_29
        refine lv_tableIn (off := 1122) (tgt := 1155) hx hb dL_law_33 (by rw [c33_29]; decide) (by rw [c33_29]; decide) (by rw [c33_29]; rfl) rfl ?_
        refine lv_aload_n hx hb dL_law_1155 rfl (lv_at hl 1 rfl) ?_
        refine lv_aload_n hx hb dL_law_1156 rfl (lv_at hl 0 rfl) ?_
        refine lv_iload_n hx hb dL_law_1157 rfl (lv_at hl 3 rfl) ?_
        refine lv_iconst (v := 1) hx hb dL_law_1158 jci_1 ?_
        refine lv_iadd hx hb dL_law_1159 ?_
        obtain ⟨g1160, h⟩ := jh_gd h
        refine va_sld hx hb hX hbl hbA hS g1160 dL_law_1160 ?_
        obtain ⟨r60, M_60, e60, h⟩ := jh_b2 h
        refine jr_km (jr_rv (As := [.int (xs (Int32.toNatClampNeg (v3_1 + 1)))]) (rest := []) S hK hP jb_0 rfl (m_X5_oldest l X (fun q : Nat => s.heap.size ≤ q) hs M_1 (xs (Int32.toNatClampNeg (v3_1 + 1))) r60 M_60 e60) jw_X5_oldest ji_X5_oldest jmL_134 rfl rfl ⟨(Nat.le_of_ble_eq_true rfl), (Nat.le_of_ble_eq_true rfl)⟩ rfl hl.1 rfl (Nat.le_of_ble_eq_true rfl) dL_law_1161 ⟨(Nat.le_of_ble_eq_true rfl), (Nat.le_of_ble_eq_true rfl)⟩) hS (fun H locs hP hS => ?_)
        refine lv_pop hx hb dL_law_1164 rfl ?_
        refine lv_aload_n hx hb dL_law_1165 rfl (lv_at hl 2 rfl) ?_
        refine lv_aload_n hx hb dL_law_1166 rfl (lv_at hl 0 rfl) ?_
        refine lv_iload_n hx hb dL_law_1167 rfl (lv_at hl 3 rfl) ?_
        refine lv_iconst (v := 1) hx hb dL_law_1168 jci_1 ?_
        refine lv_iadd hx hb dL_law_1169 ?_
        obtain ⟨g1170, h⟩ := jh_gd h
        refine va_sld hx hb hX hbl hbA hS g1170 dL_law_1170 ?_
        obtain ⟨r61, M_61, e61, h⟩ := jh_b2 h
        refine jr_km (jr_rv (As := [.int (xs (Int32.toNatClampNeg (v3_1 + 1)))]) (rest := []) S hK hP jb_16 rfl (m_X6_oldest l X (fun q : Nat => s.heap.size ≤ q) hs M_60 (xs (Int32.toNatClampNeg (v3_1 + 1))) r61 M_61 e61) jw_X6_oldest ji_X6_oldest jmL_137 rfl rfl ⟨(Nat.le_of_ble_eq_true rfl), (Nat.le_of_ble_eq_true rfl)⟩ rfl hl.1 rfl (Nat.le_of_ble_eq_true rfl) dL_law_1171 ⟨(Nat.le_of_ble_eq_true rfl), (Nat.le_of_ble_eq_true rfl)⟩) hS (fun H locs hP hS => ?_)
        refine lv_pop hx hb dL_law_1174 rfl ?_
        refine lv_goto (tgt := 1493) hx hb dL_law_1175 rfl ?_
        refine lv_iinc (v := (v3_1 + 6)) (lv' := [(3, .int (v3_1 + 6)), (0, .ref b), (1, .ref (jO X 0)), (2, .ref (jO X 16))]) hx hb dL_law_1493 hl (k := 3) rfl (congrArg _ jci_6) (Nat.le_of_ble_eq_true rfl) rfl (fun ls hl => ?_)
        refine lv_goto (tgt := 18) hx hb dL_law_1496 rfl ?_
        exact ih18 M_61 _ _ (v3_1 + 6) _ h hP hS (lv_sub hl [1, 2, 3, 0] rfl)
      replace h := jh_f h c33_29
      by_cases c33_30 : ((xs (Int32.toNatClampNeg v3_1)) &&& 63) = 30
      · replace h := jh_t h c33_30
        refine lv_tableIn (off := 1145) (tgt := 1178) hx hb dL_law_33 (by rw [c33_30]; decide) (by rw [c33_30]; decide) (by rw [c33_30]; rfl) rfl ?_
        refine lv_aload_n hx hb dL_law_1178 rfl (lv_at hl 1 rfl) ?_
        refine lv_aload_n hx hb dL_law_1179 rfl (lv_at hl 0 rfl) ?_
        refine lv_iload_n hx hb dL_law_1180 rfl (lv_at hl 3 rfl) ?_
        refine lv_iconst (v := 1) hx hb dL_law_1181 jci_1 ?_
        refine lv_iadd hx hb dL_law_1182 ?_
        obtain ⟨g1183, h⟩ := jh_gd h
        refine va_sld hx hb hX hbl hbA hS g1183 dL_law_1183 ?_
        obtain ⟨r62, M_62, e62, h⟩ := jh_b2 h
        refine jr_km (jr_rv (As := [.int (xs (Int32.toNatClampNeg (v3_1 + 1)))]) (rest := []) S hK hP jb_0 rfl (m_X5_mean l X (fun q : Nat => s.heap.size ≤ q) hs M_1 (xs (Int32.toNatClampNeg (v3_1 + 1))) r62 M_62 e62) jw_X5_mean ji_X5_mean jmL_138 rfl rfl ⟨(Nat.le_of_ble_eq_true rfl), (Nat.le_of_ble_eq_true rfl)⟩ rfl hl.1 rfl (Nat.le_of_ble_eq_true rfl) dL_law_1184 ⟨(Nat.le_of_ble_eq_true rfl), (Nat.le_of_ble_eq_true rfl)⟩) hS (fun H locs hP hS => ?_)
        refine lv_pop2_2 hx hb dL_law_1187 rfl ?_
        refine lv_aload_n hx hb dL_law_1188 rfl (lv_at hl 2 rfl) ?_
        refine lv_aload_n hx hb dL_law_1189 rfl (lv_at hl 0 rfl) ?_
        refine lv_iload_n hx hb dL_law_1190 rfl (lv_at hl 3 rfl) ?_
        refine lv_iconst (v := 1) hx hb dL_law_1191 jci_1 ?_
        refine lv_iadd hx hb dL_law_1192 ?_
        obtain ⟨g1193, h⟩ := jh_gd h
        refine va_sld hx hb hX hbl hbA hS g1193 dL_law_1193 ?_
        obtain ⟨r63, M_63, e63, h⟩ := jh_b2 h
        refine jr_km (jr_rv (As := [.int (xs (Int32.toNatClampNeg (v3_1 + 1)))]) (rest := []) S hK hP jb_16 rfl (m_X6_mean l X (fun q : Nat => s.heap.size ≤ q) hs M_62 (xs (Int32.toNatClampNeg (v3_1 + 1))) r63 M_63 e63) jw_X6_mean ji_X6_mean jmL_142 rfl rfl ⟨(Nat.le_of_ble_eq_true rfl), (Nat.le_of_ble_eq_true rfl)⟩ rfl hl.1 rfl (Nat.le_of_ble_eq_true rfl) dL_law_1194 ⟨(Nat.le_of_ble_eq_true rfl), (Nat.le_of_ble_eq_true rfl)⟩) hS (fun H locs hP hS => ?_)
        refine lv_pop2_2 hx hb dL_law_1197 rfl ?_
        refine lv_goto (tgt := 1493) hx hb dL_law_1198 rfl ?_
        refine lv_iinc (v := (v3_1 + 6)) (lv' := [(3, .int (v3_1 + 6)), (0, .ref b), (1, .ref (jO X 0)), (2, .ref (jO X 16))]) hx hb dL_law_1493 hl (k := 3) rfl (congrArg _ jci_6) (Nat.le_of_ble_eq_true rfl) rfl (fun ls hl => ?_)
        refine lv_goto (tgt := 18) hx hb dL_law_1496 rfl ?_
        exact ih18 M_63 _ _ (v3_1 + 6) _ h hP hS (lv_sub hl [1, 2, 3, 0] rfl)
      replace h := jh_f h c33_30
      by_cases c33_31 : ((xs (Int32.toNatClampNeg v3_1)) &&& 63) = 31
      · replace h := jh_t h c33_31
        refine lv_tableIn (off := 1168) (tgt := 1201) hx hb dL_law_33 (by rw [c33_31]; decide) (by rw [c33_31]; decide) (by rw [c33_31]; rfl) rfl ?_
        refine lv_aload_n hx hb dL_law_1201 rfl (lv_at hl 1 rfl) ?_
        obtain ⟨r64, e64, h⟩ := jh_b h
        refine jr_kp (jr_rv (As := []) (rest := []) S hK hP jb_0 rfl (m_X5_forgiven l X M_1  r64 e64) jw_X5_forgiven ji_X5_forgiven jmL_143 rfl rfl ⟨(Nat.le_of_ble_eq_true rfl), (Nat.le_of_ble_eq_true rfl)⟩ rfl hl.1 rfl (Nat.le_of_ble_eq_true rfl) dL_law_1202 ⟨(Nat.le_of_ble_eq_true rfl), (Nat.le_of_ble_eq_true rfl)⟩) ?_
        refine lv_pop hx hb dL_law_1205 rfl ?_
        refine lv_aload_n hx hb dL_law_1206 rfl (lv_at hl 2 rfl) ?_
        obtain ⟨r65, M_65, e65, h⟩ := jh_b2 h
        refine jr_km (jr_rv (As := []) (rest := []) S hK hP jb_16 rfl (m_X6_forgiven l X (fun q : Nat => s.heap.size ≤ q) hs M_1  r65 M_65 e65) jw_X6_forgiven ji_X6_forgiven jmL_146 rfl rfl ⟨(Nat.le_of_ble_eq_true rfl), (Nat.le_of_ble_eq_true rfl)⟩ rfl hl.1 rfl (Nat.le_of_ble_eq_true rfl) dL_law_1207 ⟨(Nat.le_of_ble_eq_true rfl), (Nat.le_of_ble_eq_true rfl)⟩) hS (fun H locs hP hS => ?_)
        refine lv_pop hx hb dL_law_1210 rfl ?_
        refine lv_goto (tgt := 1493) hx hb dL_law_1211 rfl ?_
        refine lv_iinc (v := (v3_1 + 6)) (lv' := [(3, .int (v3_1 + 6)), (0, .ref b), (1, .ref (jO X 0)), (2, .ref (jO X 16))]) hx hb dL_law_1493 hl (k := 3) rfl (congrArg _ jci_6) (Nat.le_of_ble_eq_true rfl) rfl (fun ls hl => ?_)
        refine lv_goto (tgt := 18) hx hb dL_law_1496 rfl ?_
        exact ih18 M_65 _ _ (v3_1 + 6) _ h hP hS (lv_sub hl [1, 2, 3, 0] rfl)
      replace h := jh_f h c33_31
      by_cases c33_32 : ((xs (Int32.toNatClampNeg v3_1)) &&& 63) = 32
      · replace h := jh_t h c33_32
        refine lv_tableIn (off := 1181) (tgt := 1214) hx hb dL_law_33 (by rw [c33_32]; decide) (by rw [c33_32]; decide) (by rw [c33_32]; rfl) rfl ?_
        refine lv_aload_n hx hb dL_law_1214 rfl (lv_at hl 1 rfl) ?_
        refine lv_aload_n hx hb dL_law_1215 rfl (lv_at hl 0 rfl) ?_
        refine lv_iload_n hx hb dL_law_1216 rfl (lv_at hl 3 rfl) ?_
        refine lv_iconst (v := 1) hx hb dL_law_1217 jci_1 ?_
        refine lv_iadd hx hb dL_law_1218 ?_
        obtain ⟨g1219, h⟩ := jh_gd h
        refine va_sld hx hb hX hbl hbA hS g1219 dL_law_1219 ?_
        obtain ⟨r66, M_66, e66, h⟩ := jh_b2 h
        refine jr_km (jr_rv (As := [.int (xs (Int32.toNatClampNeg (v3_1 + 1)))]) (rest := []) S hK hP jb_0 rfl (m_X5_nearest l X (fun q : Nat => s.heap.size ≤ q) hs M_1 (xs (Int32.toNatClampNeg (v3_1 + 1))) r66 M_66 e66) jw_X5_nearest ji_X5_nearest jmL_147 rfl rfl ⟨(Nat.le_of_ble_eq_true rfl), (Nat.le_of_ble_eq_true rfl)⟩ rfl hl.1 rfl (Nat.le_of_ble_eq_true rfl) dL_law_1220 ⟨(Nat.le_of_ble_eq_true rfl), (Nat.le_of_ble_eq_true rfl)⟩) hS (fun H locs hP hS => ?_)
        refine lv_pop hx hb dL_law_1223 rfl ?_
        refine lv_aload_n hx hb dL_law_1224 rfl (lv_at hl 2 rfl) ?_
        refine lv_aload_n hx hb dL_law_1225 rfl (lv_at hl 0 rfl) ?_
        refine lv_iload_n hx hb dL_law_1226 rfl (lv_at hl 3 rfl) ?_
        refine lv_iconst (v := 1) hx hb dL_law_1227 jci_1 ?_
        refine lv_iadd hx hb dL_law_1228 ?_
        obtain ⟨g1229, h⟩ := jh_gd h
        refine va_sld hx hb hX hbl hbA hS g1229 dL_law_1229 ?_
        obtain ⟨r67, M_67, e67, h⟩ := jh_b2 h
        refine jr_km (jr_rv (As := [.int (xs (Int32.toNatClampNeg (v3_1 + 1)))]) (rest := []) S hK hP jb_16 rfl (m_X6_nearest l X (fun q : Nat => s.heap.size ≤ q) hs M_66 (xs (Int32.toNatClampNeg (v3_1 + 1))) r67 M_67 e67) jw_X6_nearest ji_X6_nearest jmL_150 rfl rfl ⟨(Nat.le_of_ble_eq_true rfl), (Nat.le_of_ble_eq_true rfl)⟩ rfl hl.1 rfl (Nat.le_of_ble_eq_true rfl) dL_law_1230 ⟨(Nat.le_of_ble_eq_true rfl), (Nat.le_of_ble_eq_true rfl)⟩) hS (fun H locs hP hS => ?_)
        refine lv_pop hx hb dL_law_1233 rfl ?_
        refine lv_goto (tgt := 1493) hx hb dL_law_1234 rfl ?_
        refine lv_iinc (v := (v3_1 + 6)) (lv' := [(3, .int (v3_1 + 6)), (0, .ref b), (1, .ref (jO X 0)), (2, .ref (jO X 16))]) hx hb dL_law_1493 hl (k := 3) rfl (congrArg _ jci_6) (Nat.le_of_ble_eq_true rfl) rfl (fun ls hl => ?_)
        refine lv_goto (tgt := 18) hx hb dL_law_1496 rfl ?_
        exact ih18 M_67 _ _ (v3_1 + 6) _ h hP hS (lv_sub hl [1, 2, 3, 0] rfl)
      replace h := jh_f h c33_32
      by_cases c33_33 : ((xs (Int32.toNatClampNeg v3_1)) &&& 63) = 33
      · replace h := jh_t h c33_33
        refine lv_tableIn (off := 1204) (tgt := 1237) hx hb dL_law_33 (by rw [c33_33]; decide) (by rw [c33_33]; decide) (by rw [c33_33]; rfl) rfl ?_
        refine lv_aload_n hx hb dL_law_1237 rfl (lv_at hl 1 rfl) ?_
        refine lv_aload_n hx hb dL_law_1238 rfl (lv_at hl 0 rfl) ?_
        refine lv_iload_n hx hb dL_law_1239 rfl (lv_at hl 3 rfl) ?_
        refine lv_iconst (v := 1) hx hb dL_law_1240 jci_1 ?_
        refine lv_iadd hx hb dL_law_1241 ?_
        obtain ⟨g1242, h⟩ := jh_gd h
        refine va_sld hx hb hX hbl hbA hS g1242 dL_law_1242 ?_
        obtain ⟨r68, M_68, e68, h⟩ := jh_b2 h
        refine jr_km (jr_rv (As := [.int (xs (Int32.toNatClampNeg (v3_1 + 1)))]) (rest := []) S hK hP jb_0 rfl (m_X5_allSeen l X (fun q : Nat => s.heap.size ≤ q) hs M_1 (xs (Int32.toNatClampNeg (v3_1 + 1))) r68 M_68 e68) jw_X5_allSeen ji_X5_allSeen jmL_151 rfl rfl ⟨(Nat.le_of_ble_eq_true rfl), (Nat.le_of_ble_eq_true rfl)⟩ rfl hl.1 rfl (Nat.le_of_ble_eq_true rfl) dL_law_1243 ⟨(Nat.le_of_ble_eq_true rfl), (Nat.le_of_ble_eq_true rfl)⟩) hS (fun H locs hP hS => ?_)
        refine lv_pop hx hb dL_law_1246 rfl ?_
        refine lv_aload_n hx hb dL_law_1247 rfl (lv_at hl 2 rfl) ?_
        refine lv_aload_n hx hb dL_law_1248 rfl (lv_at hl 0 rfl) ?_
        refine lv_iload_n hx hb dL_law_1249 rfl (lv_at hl 3 rfl) ?_
        refine lv_iconst (v := 1) hx hb dL_law_1250 jci_1 ?_
        refine lv_iadd hx hb dL_law_1251 ?_
        obtain ⟨g1252, h⟩ := jh_gd h
        refine va_sld hx hb hX hbl hbA hS g1252 dL_law_1252 ?_
        obtain ⟨r69, M_69, e69, h⟩ := jh_b2 h
        refine jr_km (jr_rv (As := [.int (xs (Int32.toNatClampNeg (v3_1 + 1)))]) (rest := []) S hK hP jb_16 rfl (m_X6_allSeen l X (fun q : Nat => s.heap.size ≤ q) hs M_68 (xs (Int32.toNatClampNeg (v3_1 + 1))) r69 M_69 e69) jw_X6_allSeen ji_X6_allSeen jmL_154 rfl rfl ⟨(Nat.le_of_ble_eq_true rfl), (Nat.le_of_ble_eq_true rfl)⟩ rfl hl.1 rfl (Nat.le_of_ble_eq_true rfl) dL_law_1253 ⟨(Nat.le_of_ble_eq_true rfl), (Nat.le_of_ble_eq_true rfl)⟩) hS (fun H locs hP hS => ?_)
        refine lv_pop hx hb dL_law_1256 rfl ?_
        refine lv_goto (tgt := 1493) hx hb dL_law_1257 rfl ?_
        refine lv_iinc (v := (v3_1 + 6)) (lv' := [(3, .int (v3_1 + 6)), (0, .ref b), (1, .ref (jO X 0)), (2, .ref (jO X 16))]) hx hb dL_law_1493 hl (k := 3) rfl (congrArg _ jci_6) (Nat.le_of_ble_eq_true rfl) rfl (fun ls hl => ?_)
        refine lv_goto (tgt := 18) hx hb dL_law_1496 rfl ?_
        exact ih18 M_69 _ _ (v3_1 + 6) _ h hP hS (lv_sub hl [1, 2, 3, 0] rfl)
      replace h := jh_f h c33_33
      by_cases c33_34 : ((xs (Int32.toNatClampNeg v3_1)) &&& 63) = 34
      · replace h := jh_t h c33_34
        refine lv_tableIn (off := 1227) (tgt := 1260) hx hb dL_law_33 (by rw [c33_34]; decide) (by rw [c33_34]; decide) (by rw [c33_34]; rfl) rfl ?_
        refine lv_aload_n hx hb dL_law_1260 rfl (lv_at hl 1 rfl) ?_
        obtain ⟨r70, e70, h⟩ := jh_b h
        refine jr_kp (jr_rv (As := []) (rest := []) S hK hP jb_0 rfl (m_X5_gaps l X M_1  r70 e70) jw_X5_gaps ji_X5_gaps jmL_155 rfl rfl ⟨(Nat.le_of_ble_eq_true rfl), (Nat.le_of_ble_eq_true rfl)⟩ rfl hl.1 rfl (Nat.le_of_ble_eq_true rfl) dL_law_1261 ⟨(Nat.le_of_ble_eq_true rfl), (Nat.le_of_ble_eq_true rfl)⟩) ?_
        refine lv_pop hx hb dL_law_1264 rfl ?_
        refine lv_aload_n hx hb dL_law_1265 rfl (lv_at hl 2 rfl) ?_
        obtain ⟨r71, M_71, e71, h⟩ := jh_b2 h
        refine jr_km (jr_rv (As := []) (rest := []) S hK hP jb_16 rfl (m_X6_gaps l X (fun q : Nat => s.heap.size ≤ q) hs M_1  r71 M_71 e71) jw_X6_gaps ji_X6_gaps jmL_158 rfl rfl ⟨(Nat.le_of_ble_eq_true rfl), (Nat.le_of_ble_eq_true rfl)⟩ rfl hl.1 rfl (Nat.le_of_ble_eq_true rfl) dL_law_1266 ⟨(Nat.le_of_ble_eq_true rfl), (Nat.le_of_ble_eq_true rfl)⟩) hS (fun H locs hP hS => ?_)
        refine lv_pop hx hb dL_law_1269 rfl ?_
        refine lv_goto (tgt := 1493) hx hb dL_law_1270 rfl ?_
        refine lv_iinc (v := (v3_1 + 6)) (lv' := [(3, .int (v3_1 + 6)), (0, .ref b), (1, .ref (jO X 0)), (2, .ref (jO X 16))]) hx hb dL_law_1493 hl (k := 3) rfl (congrArg _ jci_6) (Nat.le_of_ble_eq_true rfl) rfl (fun ls hl => ?_)
        refine lv_goto (tgt := 18) hx hb dL_law_1496 rfl ?_
        exact ih18 M_71 _ _ (v3_1 + 6) _ h hP hS (lv_sub hl [1, 2, 3, 0] rfl)
      replace h := jh_f h c33_34
      by_cases c33_35 : ((xs (Int32.toNatClampNeg v3_1)) &&& 63) = 35
      · replace h := jh_t h c33_35
        refine lv_tableIn (off := 1240) (tgt := 1273) hx hb dL_law_33 (by rw [c33_35]; decide) (by rw [c33_35]; decide) (by rw [c33_35]; rfl) rfl ?_
        refine lv_aload_n hx hb dL_law_1273 rfl (lv_at hl 1 rfl) ?_
        obtain ⟨r72, e72, h⟩ := jh_b h
        refine jr_kp (jr_rv (As := []) (rest := []) S hK hP jb_0 rfl (m_X5_blind l X M_1  r72 e72) jw_X5_blind ji_X5_blind jmL_159 rfl rfl ⟨(Nat.le_of_ble_eq_true rfl), (Nat.le_of_ble_eq_true rfl)⟩ rfl hl.1 rfl (Nat.le_of_ble_eq_true rfl) dL_law_1274 ⟨(Nat.le_of_ble_eq_true rfl), (Nat.le_of_ble_eq_true rfl)⟩) ?_
        refine lv_pop hx hb dL_law_1277 rfl ?_
        refine lv_aload_n hx hb dL_law_1278 rfl (lv_at hl 2 rfl) ?_
        obtain ⟨r73, M_73, e73, h⟩ := jh_b2 h
        refine jr_km (jr_rv (As := []) (rest := []) S hK hP jb_16 rfl (m_X6_blind l X (fun q : Nat => s.heap.size ≤ q) hs M_1  r73 M_73 e73) jw_X6_blind ji_X6_blind jmL_162 rfl rfl ⟨(Nat.le_of_ble_eq_true rfl), (Nat.le_of_ble_eq_true rfl)⟩ rfl hl.1 rfl (Nat.le_of_ble_eq_true rfl) dL_law_1279 ⟨(Nat.le_of_ble_eq_true rfl), (Nat.le_of_ble_eq_true rfl)⟩) hS (fun H locs hP hS => ?_)
        refine lv_pop hx hb dL_law_1282 rfl ?_
        refine lv_goto (tgt := 1493) hx hb dL_law_1283 rfl ?_
        refine lv_iinc (v := (v3_1 + 6)) (lv' := [(3, .int (v3_1 + 6)), (0, .ref b), (1, .ref (jO X 0)), (2, .ref (jO X 16))]) hx hb dL_law_1493 hl (k := 3) rfl (congrArg _ jci_6) (Nat.le_of_ble_eq_true rfl) rfl (fun ls hl => ?_)
        refine lv_goto (tgt := 18) hx hb dL_law_1496 rfl ?_
        exact ih18 M_73 _ _ (v3_1 + 6) _ h hP hS (lv_sub hl [1, 2, 3, 0] rfl)
      replace h := jh_f h c33_35
      by_cases c33_36 : ((xs (Int32.toNatClampNeg v3_1)) &&& 63) = 36
      · replace h := jh_t h c33_36
        refine lv_tableIn (off := 1253) (tgt := 1286) hx hb dL_law_33 (by rw [c33_36]; decide) (by rw [c33_36]; decide) (by rw [c33_36]; rfl) rfl ?_
        refine lv_aload_n hx hb dL_law_1286 rfl (lv_at hl 1 rfl) ?_
        refine lv_aload_n hx hb dL_law_1287 rfl (lv_at hl 0 rfl) ?_
        refine lv_iload_n hx hb dL_law_1288 rfl (lv_at hl 3 rfl) ?_
        refine lv_iconst (v := 1) hx hb dL_law_1289 jci_1 ?_
        refine lv_iadd hx hb dL_law_1290 ?_
        obtain ⟨g1291, h⟩ := jh_gd h
        refine va_sld hx hb hX hbl hbA hS g1291 dL_law_1291 ?_
        refine lv_aload_n hx hb dL_law_1292 rfl (lv_at hl 0 rfl) ?_
        refine lv_iload_n hx hb dL_law_1293 rfl (lv_at hl 3 rfl) ?_
        refine lv_iconst (v := 2) hx hb dL_law_1294 jci_2 ?_
        refine lv_iadd hx hb dL_law_1295 ?_
        obtain ⟨g1296, h⟩ := jh_gd h
        refine va_sld hx hb hX hbl hbA hS g1296 dL_law_1296 ?_
        refine lv_aload_n hx hb dL_law_1297 rfl (lv_at hl 0 rfl) ?_
        refine lv_iload_n hx hb dL_law_1298 rfl (lv_at hl 3 rfl) ?_
        refine lv_iconst (v := 3) hx hb dL_law_1299 jci_3 ?_
        refine lv_iadd hx hb dL_law_1300 ?_
        obtain ⟨g1301, h⟩ := jh_gd h
        refine va_sld hx hb hX hbl hbA hS g1301 dL_law_1301 ?_
        obtain ⟨r74, M_74, e74, h⟩ := jh_b2 h
        refine jr_km (jr_rv (As := [.int (xs (Int32.toNatClampNeg (v3_1 + 1))), .int (xs (Int32.toNatClampNeg (v3_1 + 2))), .int (xs (Int32.toNatClampNeg (v3_1 + 3)))]) (rest := []) S hK hP jb_0 rfl (m_X5_moved l X (fun q : Nat => s.heap.size ≤ q) hs M_1 (xs (Int32.toNatClampNeg (v3_1 + 1))) (xs (Int32.toNatClampNeg (v3_1 + 2))) (xs (Int32.toNatClampNeg (v3_1 + 3))) r74 M_74 e74) jw_X5_moved ji_X5_moved jmL_163 rfl rfl ⟨(Nat.le_of_ble_eq_true rfl), (Nat.le_of_ble_eq_true rfl)⟩ rfl hl.1 rfl (Nat.le_of_ble_eq_true rfl) dL_law_1302 ⟨(Nat.le_of_ble_eq_true rfl), (Nat.le_of_ble_eq_true rfl)⟩) hS (fun H locs hP hS => ?_)
        refine lv_pop hx hb dL_law_1305 rfl ?_
        refine lv_aload_n hx hb dL_law_1306 rfl (lv_at hl 2 rfl) ?_
        refine lv_aload_n hx hb dL_law_1307 rfl (lv_at hl 0 rfl) ?_
        refine lv_iload_n hx hb dL_law_1308 rfl (lv_at hl 3 rfl) ?_
        refine lv_iconst (v := 1) hx hb dL_law_1309 jci_1 ?_
        refine lv_iadd hx hb dL_law_1310 ?_
        obtain ⟨g1311, h⟩ := jh_gd h
        refine va_sld hx hb hX hbl hbA hS g1311 dL_law_1311 ?_
        refine lv_aload_n hx hb dL_law_1312 rfl (lv_at hl 0 rfl) ?_
        refine lv_iload_n hx hb dL_law_1313 rfl (lv_at hl 3 rfl) ?_
        refine lv_iconst (v := 2) hx hb dL_law_1314 jci_2 ?_
        refine lv_iadd hx hb dL_law_1315 ?_
        obtain ⟨g1316, h⟩ := jh_gd h
        refine va_sld hx hb hX hbl hbA hS g1316 dL_law_1316 ?_
        refine lv_aload_n hx hb dL_law_1317 rfl (lv_at hl 0 rfl) ?_
        refine lv_iload_n hx hb dL_law_1318 rfl (lv_at hl 3 rfl) ?_
        refine lv_iconst (v := 3) hx hb dL_law_1319 jci_3 ?_
        refine lv_iadd hx hb dL_law_1320 ?_
        obtain ⟨g1321, h⟩ := jh_gd h
        refine va_sld hx hb hX hbl hbA hS g1321 dL_law_1321 ?_
        obtain ⟨r75, M_75, e75, h⟩ := jh_b2 h
        refine jr_km (jr_rv (As := [.int (xs (Int32.toNatClampNeg (v3_1 + 1))), .int (xs (Int32.toNatClampNeg (v3_1 + 2))), .int (xs (Int32.toNatClampNeg (v3_1 + 3)))]) (rest := []) S hK hP jb_16 rfl (m_X6_moved l X (fun q : Nat => s.heap.size ≤ q) hs M_74 (xs (Int32.toNatClampNeg (v3_1 + 1))) (xs (Int32.toNatClampNeg (v3_1 + 2))) (xs (Int32.toNatClampNeg (v3_1 + 3))) r75 M_75 e75) jw_X6_moved ji_X6_moved jmL_166 rfl rfl ⟨(Nat.le_of_ble_eq_true rfl), (Nat.le_of_ble_eq_true rfl)⟩ rfl hl.1 rfl (Nat.le_of_ble_eq_true rfl) dL_law_1322 ⟨(Nat.le_of_ble_eq_true rfl), (Nat.le_of_ble_eq_true rfl)⟩) hS (fun H locs hP hS => ?_)
        refine lv_pop hx hb dL_law_1325 rfl ?_
        refine lv_goto (tgt := 1493) hx hb dL_law_1326 rfl ?_
        refine lv_iinc (v := (v3_1 + 6)) (lv' := [(3, .int (v3_1 + 6)), (0, .ref b), (1, .ref (jO X 0)), (2, .ref (jO X 16))]) hx hb dL_law_1493 hl (k := 3) rfl (congrArg _ jci_6) (Nat.le_of_ble_eq_true rfl) rfl (fun ls hl => ?_)
        refine lv_goto (tgt := 18) hx hb dL_law_1496 rfl ?_
        exact ih18 M_75 _ _ (v3_1 + 6) _ h hP hS (lv_sub hl [1, 2, 3, 0] rfl)
      replace h := jh_f h c33_36
      by_cases c33_37 : ((xs (Int32.toNatClampNeg v3_1)) &&& 63) = 37
      · replace h := jh_t h c33_37
        refine lv_tableIn (off := 1296) (tgt := 1329) hx hb dL_law_33 (by rw [c33_37]; decide) (by rw [c33_37]; decide) (by rw [c33_37]; rfl) rfl ?_
        refine lv_aload_n hx hb dL_law_1329 rfl (lv_at hl 1 rfl) ?_
        refine lv_aload_n hx hb dL_law_1330 rfl (lv_at hl 0 rfl) ?_
        refine lv_iload_n hx hb dL_law_1331 rfl (lv_at hl 3 rfl) ?_
        refine lv_iconst (v := 1) hx hb dL_law_1332 jci_1 ?_
        refine lv_iadd hx hb dL_law_1333 ?_
        obtain ⟨g1334, h⟩ := jh_gd h
        refine va_sld hx hb hX hbl hbA hS g1334 dL_law_1334 ?_
        obtain ⟨r76, M_76, e76, h⟩ := jh_b2 h
        refine jr_km (jr_rv (As := [.int (xs (Int32.toNatClampNeg (v3_1 + 1)))]) (rest := []) S hK hP jb_0 rfl (m_X5_street l X (fun q : Nat => s.heap.size ≤ q) hs M_1 (xs (Int32.toNatClampNeg (v3_1 + 1))) r76 M_76 e76) jw_X5_street ji_X5_street jmL_167 rfl rfl ⟨(Nat.le_of_ble_eq_true rfl), (Nat.le_of_ble_eq_true rfl)⟩ rfl hl.1 rfl (Nat.le_of_ble_eq_true rfl) dL_law_1335 ⟨(Nat.le_of_ble_eq_true rfl), (Nat.le_of_ble_eq_true rfl)⟩) hS (fun H locs hP hS => ?_)
        refine lv_pop hx hb dL_law_1338 rfl ?_
        refine lv_aload_n hx hb dL_law_1339 rfl (lv_at hl 2 rfl) ?_
        refine lv_aload_n hx hb dL_law_1340 rfl (lv_at hl 0 rfl) ?_
        refine lv_iload_n hx hb dL_law_1341 rfl (lv_at hl 3 rfl) ?_
        refine lv_iconst (v := 1) hx hb dL_law_1342 jci_1 ?_
        refine lv_iadd hx hb dL_law_1343 ?_
        obtain ⟨g1344, h⟩ := jh_gd h
        refine va_sld hx hb hX hbl hbA hS g1344 dL_law_1344 ?_
        obtain ⟨r77, M_77, e77, h⟩ := jh_b2 h
        refine jr_km (jr_rv (As := [.int (xs (Int32.toNatClampNeg (v3_1 + 1)))]) (rest := []) S hK hP jb_16 rfl (m_X6_street l X (fun q : Nat => s.heap.size ≤ q) hs M_76 (xs (Int32.toNatClampNeg (v3_1 + 1))) r77 M_77 e77) jw_X6_street ji_X6_street jmL_170 rfl rfl ⟨(Nat.le_of_ble_eq_true rfl), (Nat.le_of_ble_eq_true rfl)⟩ rfl hl.1 rfl (Nat.le_of_ble_eq_true rfl) dL_law_1345 ⟨(Nat.le_of_ble_eq_true rfl), (Nat.le_of_ble_eq_true rfl)⟩) hS (fun H locs hP hS => ?_)
        refine lv_pop hx hb dL_law_1348 rfl ?_
        refine lv_goto (tgt := 1493) hx hb dL_law_1349 rfl ?_
        refine lv_iinc (v := (v3_1 + 6)) (lv' := [(3, .int (v3_1 + 6)), (0, .ref b), (1, .ref (jO X 0)), (2, .ref (jO X 16))]) hx hb dL_law_1493 hl (k := 3) rfl (congrArg _ jci_6) (Nat.le_of_ble_eq_true rfl) rfl (fun ls hl => ?_)
        refine lv_goto (tgt := 18) hx hb dL_law_1496 rfl ?_
        exact ih18 M_77 _ _ (v3_1 + 6) _ h hP hS (lv_sub hl [1, 2, 3, 0] rfl)
      replace h := jh_f h c33_37
      by_cases c33_38 : ((xs (Int32.toNatClampNeg v3_1)) &&& 63) = 38
      · replace h := jh_t h c33_38
        refine lv_tableIn (off := 1319) (tgt := 1352) hx hb dL_law_33 (by rw [c33_38]; decide) (by rw [c33_38]; decide) (by rw [c33_38]; rfl) rfl ?_
        refine lv_aload_n hx hb dL_law_1352 rfl (lv_at hl 1 rfl) ?_
        refine lv_aload_n hx hb dL_law_1353 rfl (lv_at hl 0 rfl) ?_
        refine lv_iload_n hx hb dL_law_1354 rfl (lv_at hl 3 rfl) ?_
        refine lv_iconst (v := 1) hx hb dL_law_1355 jci_1 ?_
        refine lv_iadd hx hb dL_law_1356 ?_
        obtain ⟨g1357, h⟩ := jh_gd h
        refine va_sld hx hb hX hbl hbA hS g1357 dL_law_1357 ?_
        obtain ⟨r78, M_78, e78, h⟩ := jh_b2 h
        refine jr_km (jr_rv (As := [.int (xs (Int32.toNatClampNeg (v3_1 + 1)))]) (rest := []) S hK hP jb_0 rfl (m_X5_row l X (fun q : Nat => s.heap.size ≤ q) hs M_1 (xs (Int32.toNatClampNeg (v3_1 + 1))) r78 M_78 e78) jw_X5_row ji_X5_row jmL_171 rfl rfl ⟨(Nat.le_of_ble_eq_true rfl), (Nat.le_of_ble_eq_true rfl)⟩ rfl hl.1 rfl (Nat.le_of_ble_eq_true rfl) dL_law_1358 ⟨(Nat.le_of_ble_eq_true rfl), (Nat.le_of_ble_eq_true rfl)⟩) hS (fun H locs hP hS => ?_)
        refine lv_pop hx hb dL_law_1361 rfl ?_
        refine lv_aload_n hx hb dL_law_1362 rfl (lv_at hl 2 rfl) ?_
        refine lv_aload_n hx hb dL_law_1363 rfl (lv_at hl 0 rfl) ?_
        refine lv_iload_n hx hb dL_law_1364 rfl (lv_at hl 3 rfl) ?_
        refine lv_iconst (v := 1) hx hb dL_law_1365 jci_1 ?_
        refine lv_iadd hx hb dL_law_1366 ?_
        obtain ⟨g1367, h⟩ := jh_gd h
        refine va_sld hx hb hX hbl hbA hS g1367 dL_law_1367 ?_
        obtain ⟨r79, M_79, e79, h⟩ := jh_b2 h
        refine jr_km (jr_rv (As := [.int (xs (Int32.toNatClampNeg (v3_1 + 1)))]) (rest := []) S hK hP jb_16 rfl (m_X6_row l X (fun q : Nat => s.heap.size ≤ q) hs M_78 (xs (Int32.toNatClampNeg (v3_1 + 1))) r79 M_79 e79) jw_X6_row ji_X6_row jmL_174 rfl rfl ⟨(Nat.le_of_ble_eq_true rfl), (Nat.le_of_ble_eq_true rfl)⟩ rfl hl.1 rfl (Nat.le_of_ble_eq_true rfl) dL_law_1368 ⟨(Nat.le_of_ble_eq_true rfl), (Nat.le_of_ble_eq_true rfl)⟩) hS (fun H locs hP hS => ?_)
        refine lv_pop hx hb dL_law_1371 rfl ?_
        refine lv_goto (tgt := 1493) hx hb dL_law_1372 rfl ?_
        refine lv_iinc (v := (v3_1 + 6)) (lv' := [(3, .int (v3_1 + 6)), (0, .ref b), (1, .ref (jO X 0)), (2, .ref (jO X 16))]) hx hb dL_law_1493 hl (k := 3) rfl (congrArg _ jci_6) (Nat.le_of_ble_eq_true rfl) rfl (fun ls hl => ?_)
        refine lv_goto (tgt := 18) hx hb dL_law_1496 rfl ?_
        exact ih18 M_79 _ _ (v3_1 + 6) _ h hP hS (lv_sub hl [1, 2, 3, 0] rfl)
      replace h := jh_f h c33_38
      by_cases c33_39 : ((xs (Int32.toNatClampNeg v3_1)) &&& 63) = 39
      · replace h := jh_t h c33_39
        refine lv_tableIn (off := 1342) (tgt := 1375) hx hb dL_law_33 (by rw [c33_39]; decide) (by rw [c33_39]; decide) (by rw [c33_39]; rfl) rfl ?_
        refine lv_aload_n hx hb dL_law_1375 rfl (lv_at hl 1 rfl) ?_
        obtain ⟨r80, M_80, e80, h⟩ := jh_b2 h
        refine jr_km (jr_rv (As := []) (rest := []) S hK hP jb_0 rfl (m_X5_judge l X (fun q : Nat => s.heap.size ≤ q) hs M_1  r80 M_80 e80) jw_X5_judge ji_X5_judge jmL_175 rfl rfl ⟨(Nat.le_of_ble_eq_true rfl), (Nat.le_of_ble_eq_true rfl)⟩ rfl hl.1 rfl (Nat.le_of_ble_eq_true rfl) dL_law_1376 ⟨(Nat.le_of_ble_eq_true rfl), (Nat.le_of_ble_eq_true rfl)⟩) hS (fun H locs hP hS => ?_)
        refine lv_pop hx hb dL_law_1379 rfl ?_
        refine lv_aload_n hx hb dL_law_1380 rfl (lv_at hl 2 rfl) ?_
        obtain ⟨r81, M_81, e81, h⟩ := jh_b2 h
        refine jr_km (jr_rv (As := []) (rest := []) S hK hP jb_16 rfl (m_X6_judge l X (fun q : Nat => s.heap.size ≤ q) hs M_80  r81 M_81 e81) jw_X6_judge ji_X6_judge jmL_178 rfl rfl ⟨(Nat.le_of_ble_eq_true rfl), (Nat.le_of_ble_eq_true rfl)⟩ rfl hl.1 rfl (Nat.le_of_ble_eq_true rfl) dL_law_1381 ⟨(Nat.le_of_ble_eq_true rfl), (Nat.le_of_ble_eq_true rfl)⟩) hS (fun H locs hP hS => ?_)
        refine lv_pop hx hb dL_law_1384 rfl ?_
        refine lv_goto (tgt := 1493) hx hb dL_law_1385 rfl ?_
        refine lv_iinc (v := (v3_1 + 6)) (lv' := [(3, .int (v3_1 + 6)), (0, .ref b), (1, .ref (jO X 0)), (2, .ref (jO X 16))]) hx hb dL_law_1493 hl (k := 3) rfl (congrArg _ jci_6) (Nat.le_of_ble_eq_true rfl) rfl (fun ls hl => ?_)
        refine lv_goto (tgt := 18) hx hb dL_law_1496 rfl ?_
        exact ih18 M_81 _ _ (v3_1 + 6) _ h hP hS (lv_sub hl [1, 2, 3, 0] rfl)
      replace h := jh_f h c33_39
      by_cases c33_40 : ((xs (Int32.toNatClampNeg v3_1)) &&& 63) = 40
      · replace h := jh_t h c33_40
        refine lv_tableIn (off := 1355) (tgt := 1388) hx hb dL_law_33 (by rw [c33_40]; decide) (by rw [c33_40]; decide) (by rw [c33_40]; rfl) rfl ?_
        refine lv_aload_n hx hb dL_law_1388 rfl (lv_at hl 1 rfl) ?_
        obtain ⟨r82, M_82, e82, h⟩ := jh_b2 h
        refine jr_km (jr_rv (As := []) (rest := []) S hK hP jb_0 rfl (m_X5_empties l X (fun q : Nat => s.heap.size ≤ q) hs M_1  r82 M_82 e82) jw_X5_empties ji_X5_empties jmL_179 rfl rfl ⟨(Nat.le_of_ble_eq_true rfl), (Nat.le_of_ble_eq_true rfl)⟩ rfl hl.1 rfl (Nat.le_of_ble_eq_true rfl) dL_law_1389 ⟨(Nat.le_of_ble_eq_true rfl), (Nat.le_of_ble_eq_true rfl)⟩) hS (fun H locs hP hS => ?_)
        refine lv_pop hx hb dL_law_1392 rfl ?_
        refine lv_aload_n hx hb dL_law_1393 rfl (lv_at hl 2 rfl) ?_
        obtain ⟨r83, M_83, e83, h⟩ := jh_b2 h
        refine jr_km (jr_rv (As := []) (rest := []) S hK hP jb_16 rfl (m_X6_empties l X (fun q : Nat => s.heap.size ≤ q) hs M_82  r83 M_83 e83) jw_X6_empties ji_X6_empties jmL_182 rfl rfl ⟨(Nat.le_of_ble_eq_true rfl), (Nat.le_of_ble_eq_true rfl)⟩ rfl hl.1 rfl (Nat.le_of_ble_eq_true rfl) dL_law_1394 ⟨(Nat.le_of_ble_eq_true rfl), (Nat.le_of_ble_eq_true rfl)⟩) hS (fun H locs hP hS => ?_)
        refine lv_pop hx hb dL_law_1397 rfl ?_
        refine lv_goto (tgt := 1493) hx hb dL_law_1398 rfl ?_
        refine lv_iinc (v := (v3_1 + 6)) (lv' := [(3, .int (v3_1 + 6)), (0, .ref b), (1, .ref (jO X 0)), (2, .ref (jO X 16))]) hx hb dL_law_1493 hl (k := 3) rfl (congrArg _ jci_6) (Nat.le_of_ble_eq_true rfl) rfl (fun ls hl => ?_)
        refine lv_goto (tgt := 18) hx hb dL_law_1496 rfl ?_
        exact ih18 M_83 _ _ (v3_1 + 6) _ h hP hS (lv_sub hl [1, 2, 3, 0] rfl)
      replace h := jh_f h c33_40
      by_cases c33_41 : ((xs (Int32.toNatClampNeg v3_1)) &&& 63) = 41
      · replace h := jh_t h c33_41
        refine lv_tableIn (off := 1368) (tgt := 1401) hx hb dL_law_33 (by rw [c33_41]; decide) (by rw [c33_41]; decide) (by rw [c33_41]; rfl) rfl ?_
        refine lv_aload_n hx hb dL_law_1401 rfl (lv_at hl 1 rfl) ?_
        refine lv_aload_n hx hb dL_law_1402 rfl (lv_at hl 0 rfl) ?_
        refine lv_iload_n hx hb dL_law_1403 rfl (lv_at hl 3 rfl) ?_
        refine lv_iconst (v := 1) hx hb dL_law_1404 jci_1 ?_
        refine lv_iadd hx hb dL_law_1405 ?_
        obtain ⟨g1406, h⟩ := jh_gd h
        refine va_sld hx hb hX hbl hbA hS g1406 dL_law_1406 ?_
        refine lv_aload_n hx hb dL_law_1407 rfl (lv_at hl 0 rfl) ?_
        refine lv_iload_n hx hb dL_law_1408 rfl (lv_at hl 3 rfl) ?_
        refine lv_iconst (v := 2) hx hb dL_law_1409 jci_2 ?_
        refine lv_iadd hx hb dL_law_1410 ?_
        obtain ⟨g1411, h⟩ := jh_gd h
        refine va_sld hx hb hX hbl hbA hS g1411 dL_law_1411 ?_
        refine lv_aload_n hx hb dL_law_1412 rfl (lv_at hl 0 rfl) ?_
        refine lv_iload_n hx hb dL_law_1413 rfl (lv_at hl 3 rfl) ?_
        refine lv_iconst (v := 3) hx hb dL_law_1414 jci_3 ?_
        refine lv_iadd hx hb dL_law_1415 ?_
        obtain ⟨g1416, h⟩ := jh_gd h
        refine va_sld hx hb hX hbl hbA hS g1416 dL_law_1416 ?_
        obtain ⟨r84, M_84, e84, h⟩ := jh_b2 h
        refine jr_km (jr_rv (As := [.int (xs (Int32.toNatClampNeg (v3_1 + 1))), .int (xs (Int32.toNatClampNeg (v3_1 + 2))), .int (xs (Int32.toNatClampNeg (v3_1 + 3)))]) (rest := []) S hK hP jb_0 rfl (m_X5_lots l X (fun q : Nat => s.heap.size ≤ q) hs M_1 (xs (Int32.toNatClampNeg (v3_1 + 1))) (xs (Int32.toNatClampNeg (v3_1 + 2))) (xs (Int32.toNatClampNeg (v3_1 + 3))) r84 M_84 e84) jw_X5_lots ji_X5_lots jmL_183 rfl rfl ⟨(Nat.le_of_ble_eq_true rfl), (Nat.le_of_ble_eq_true rfl)⟩ rfl hl.1 rfl (Nat.le_of_ble_eq_true rfl) dL_law_1417 ⟨(Nat.le_of_ble_eq_true rfl), (Nat.le_of_ble_eq_true rfl)⟩) hS (fun H locs hP hS => ?_)
        refine lv_pop hx hb dL_law_1420 rfl ?_
        refine lv_aload_n hx hb dL_law_1421 rfl (lv_at hl 2 rfl) ?_
        refine lv_aload_n hx hb dL_law_1422 rfl (lv_at hl 0 rfl) ?_
        refine lv_iload_n hx hb dL_law_1423 rfl (lv_at hl 3 rfl) ?_
        refine lv_iconst (v := 1) hx hb dL_law_1424 jci_1 ?_
        refine lv_iadd hx hb dL_law_1425 ?_
        obtain ⟨g1426, h⟩ := jh_gd h
        refine va_sld hx hb hX hbl hbA hS g1426 dL_law_1426 ?_
        refine lv_aload_n hx hb dL_law_1427 rfl (lv_at hl 0 rfl) ?_
        refine lv_iload_n hx hb dL_law_1428 rfl (lv_at hl 3 rfl) ?_
        refine lv_iconst (v := 2) hx hb dL_law_1429 jci_2 ?_
        refine lv_iadd hx hb dL_law_1430 ?_
        obtain ⟨g1431, h⟩ := jh_gd h
        refine va_sld hx hb hX hbl hbA hS g1431 dL_law_1431 ?_
        refine lv_aload_n hx hb dL_law_1432 rfl (lv_at hl 0 rfl) ?_
        refine lv_iload_n hx hb dL_law_1433 rfl (lv_at hl 3 rfl) ?_
        refine lv_iconst (v := 3) hx hb dL_law_1434 jci_3 ?_
        refine lv_iadd hx hb dL_law_1435 ?_
        obtain ⟨g1436, h⟩ := jh_gd h
        refine va_sld hx hb hX hbl hbA hS g1436 dL_law_1436 ?_
        obtain ⟨r85, M_85, e85, h⟩ := jh_b2 h
        refine jr_km (jr_rv (As := [.int (xs (Int32.toNatClampNeg (v3_1 + 1))), .int (xs (Int32.toNatClampNeg (v3_1 + 2))), .int (xs (Int32.toNatClampNeg (v3_1 + 3)))]) (rest := []) S hK hP jb_16 rfl (m_X6_lots l X (fun q : Nat => s.heap.size ≤ q) hs M_84 (xs (Int32.toNatClampNeg (v3_1 + 1))) (xs (Int32.toNatClampNeg (v3_1 + 2))) (xs (Int32.toNatClampNeg (v3_1 + 3))) r85 M_85 e85) jw_X6_lots ji_X6_lots jmL_186 rfl rfl ⟨(Nat.le_of_ble_eq_true rfl), (Nat.le_of_ble_eq_true rfl)⟩ rfl hl.1 rfl (Nat.le_of_ble_eq_true rfl) dL_law_1437 ⟨(Nat.le_of_ble_eq_true rfl), (Nat.le_of_ble_eq_true rfl)⟩) hS (fun H locs hP hS => ?_)
        refine lv_pop hx hb dL_law_1440 rfl ?_
        refine lv_goto (tgt := 1493) hx hb dL_law_1441 rfl ?_
        refine lv_iinc (v := (v3_1 + 6)) (lv' := [(3, .int (v3_1 + 6)), (0, .ref b), (1, .ref (jO X 0)), (2, .ref (jO X 16))]) hx hb dL_law_1493 hl (k := 3) rfl (congrArg _ jci_6) (Nat.le_of_ble_eq_true rfl) rfl (fun ls hl => ?_)
        refine lv_goto (tgt := 18) hx hb dL_law_1496 rfl ?_
        exact ih18 M_85 _ _ (v3_1 + 6) _ h hP hS (lv_sub hl [1, 2, 3, 0] rfl)
      replace h := jh_f h c33_41
      by_cases c33_42 : ((xs (Int32.toNatClampNeg v3_1)) &&& 63) = 42
      · replace h := jh_t h c33_42
        refine lv_tableIn (off := 1411) (tgt := 1444) hx hb dL_law_33 (by rw [c33_42]; decide) (by rw [c33_42]; decide) (by rw [c33_42]; rfl) rfl ?_
        refine lv_aload_n hx hb dL_law_1444 rfl (lv_at hl 1 rfl) ?_
        obtain ⟨r86, M_86, e86, h⟩ := jh_b2 h
        refine jr_km (jr_rv (As := []) (rest := []) S hK hP jb_0 rfl (m_X5_image l X (fun q : Nat => s.heap.size ≤ q) hs M_1  r86 M_86 e86) jw_X5_image ji_X5_image jmL_187 rfl rfl ⟨(Nat.le_of_ble_eq_true rfl), (Nat.le_of_ble_eq_true rfl)⟩ rfl hl.1 rfl (Nat.le_of_ble_eq_true rfl) dL_law_1445 ⟨(Nat.le_of_ble_eq_true rfl), (Nat.le_of_ble_eq_true rfl)⟩) hS (fun H locs hP hS => ?_)
        refine lv_pop hx hb dL_law_1448 rfl ?_
        refine lv_aload_n hx hb dL_law_1449 rfl (lv_at hl 2 rfl) ?_
        obtain ⟨r87, M_87, e87, h⟩ := jh_b2 h
        refine jr_km (jr_rv (As := []) (rest := []) S hK hP jb_16 rfl (m_X6_image l X (fun q : Nat => s.heap.size ≤ q) hs M_86  r87 M_87 e87) jw_X6_image ji_X6_image jmL_190 rfl rfl ⟨(Nat.le_of_ble_eq_true rfl), (Nat.le_of_ble_eq_true rfl)⟩ rfl hl.1 rfl (Nat.le_of_ble_eq_true rfl) dL_law_1450 ⟨(Nat.le_of_ble_eq_true rfl), (Nat.le_of_ble_eq_true rfl)⟩) hS (fun H locs hP hS => ?_)
        refine lv_pop hx hb dL_law_1453 rfl ?_
        refine lv_goto (tgt := 1493) hx hb dL_law_1454 rfl ?_
        refine lv_iinc (v := (v3_1 + 6)) (lv' := [(3, .int (v3_1 + 6)), (0, .ref b), (1, .ref (jO X 0)), (2, .ref (jO X 16))]) hx hb dL_law_1493 hl (k := 3) rfl (congrArg _ jci_6) (Nat.le_of_ble_eq_true rfl) rfl (fun ls hl => ?_)
        refine lv_goto (tgt := 18) hx hb dL_law_1496 rfl ?_
        exact ih18 M_87 _ _ (v3_1 + 6) _ h hP hS (lv_sub hl [1, 2, 3, 0] rfl)
      replace h := jh_f h c33_42
      by_cases c33_43 : ((xs (Int32.toNatClampNeg v3_1)) &&& 63) = 43
      · replace h := jh_t h c33_43
        refine lv_tableIn (off := 1424) (tgt := 1457) hx hb dL_law_33 (by rw [c33_43]; decide) (by rw [c33_43]; decide) (by rw [c33_43]; rfl) rfl ?_
        refine lv_aload_n hx hb dL_law_1457 rfl (lv_at hl 1 rfl) ?_
        obtain ⟨r88, M_88, e88, h⟩ := jh_b2 h
        refine jr_km (jr_rv (As := []) (rest := []) S hK hP jb_0 rfl (m_X5_restore l X (fun q : Nat => s.heap.size ≤ q) hs M_1  r88 M_88 e88) jw_X5_restore ji_X5_restore jmL_191 rfl rfl ⟨(Nat.le_of_ble_eq_true rfl), (Nat.le_of_ble_eq_true rfl)⟩ rfl hl.1 rfl (Nat.le_of_ble_eq_true rfl) dL_law_1458 ⟨(Nat.le_of_ble_eq_true rfl), (Nat.le_of_ble_eq_true rfl)⟩) hS (fun H locs hP hS => ?_)
        refine lv_pop hx hb dL_law_1461 rfl ?_
        refine lv_aload_n hx hb dL_law_1462 rfl (lv_at hl 2 rfl) ?_
        obtain ⟨r89, M_89, e89, h⟩ := jh_b2 h
        refine jr_km (jr_rv (As := []) (rest := []) S hK hP jb_16 rfl (m_X6_restore l X (fun q : Nat => s.heap.size ≤ q) hs M_88  r89 M_89 e89) jw_X6_restore ji_X6_restore jmL_194 rfl rfl ⟨(Nat.le_of_ble_eq_true rfl), (Nat.le_of_ble_eq_true rfl)⟩ rfl hl.1 rfl (Nat.le_of_ble_eq_true rfl) dL_law_1463 ⟨(Nat.le_of_ble_eq_true rfl), (Nat.le_of_ble_eq_true rfl)⟩) hS (fun H locs hP hS => ?_)
        refine lv_pop hx hb dL_law_1466 rfl ?_
        refine lv_goto (tgt := 1493) hx hb dL_law_1467 rfl ?_
        refine lv_iinc (v := (v3_1 + 6)) (lv' := [(3, .int (v3_1 + 6)), (0, .ref b), (1, .ref (jO X 0)), (2, .ref (jO X 16))]) hx hb dL_law_1493 hl (k := 3) rfl (congrArg _ jci_6) (Nat.le_of_ble_eq_true rfl) rfl (fun ls hl => ?_)
        refine lv_goto (tgt := 18) hx hb dL_law_1496 rfl ?_
        exact ih18 M_89 _ _ (v3_1 + 6) _ h hP hS (lv_sub hl [1, 2, 3, 0] rfl)
      replace h := jh_f h c33_43
      by_cases c33_44 : ((xs (Int32.toNatClampNeg v3_1)) &&& 63) = 44
      · replace h := jh_t h c33_44
        refine lv_tableIn (off := 1437) (tgt := 1470) hx hb dL_law_33 (by rw [c33_44]; decide) (by rw [c33_44]; decide) (by rw [c33_44]; rfl) rfl ?_
        refine lv_aload_n hx hb dL_law_1470 rfl (lv_at hl 1 rfl) ?_
        refine lv_aload_n hx hb dL_law_1471 rfl (lv_at hl 0 rfl) ?_
        refine lv_iload_n hx hb dL_law_1472 rfl (lv_at hl 3 rfl) ?_
        refine lv_iconst (v := 1) hx hb dL_law_1473 jci_1 ?_
        refine lv_iadd hx hb dL_law_1474 ?_
        obtain ⟨g1475, h⟩ := jh_gd h
        refine va_sld hx hb hX hbl hbA hS g1475 dL_law_1475 ?_
        obtain ⟨r90, e90, h⟩ := jh_b h
        refine jr_kp (jr_rv (As := [.int (xs (Int32.toNatClampNeg (v3_1 + 1)))]) (rest := []) S hK hP jb_0 rfl (m_X5_count l X M_1 (xs (Int32.toNatClampNeg (v3_1 + 1))) r90 e90) jw_X5_count ji_X5_count jmL_195 rfl rfl ⟨(Nat.le_of_ble_eq_true rfl), (Nat.le_of_ble_eq_true rfl)⟩ rfl hl.1 rfl (Nat.le_of_ble_eq_true rfl) dL_law_1476 ⟨(Nat.le_of_ble_eq_true rfl), (Nat.le_of_ble_eq_true rfl)⟩) ?_
        refine lv_aload_n hx hb dL_law_1479 rfl (lv_at hl 2 rfl) ?_
        refine lv_aload_n hx hb dL_law_1480 rfl (lv_at hl 0 rfl) ?_
        refine lv_iload_n hx hb dL_law_1481 rfl (lv_at hl 3 rfl) ?_
        refine lv_iconst (v := 1) hx hb dL_law_1482 jci_1 ?_
        refine lv_iadd hx hb dL_law_1483 ?_
        obtain ⟨g1484, h⟩ := jh_gd h
        refine va_sld hx hb hX hbl hbA hS g1484 dL_law_1484 ?_
        obtain ⟨r91, M_91, e91, h⟩ := jh_b2 h
        refine jr_km (jr_rv (As := [.int (xs (Int32.toNatClampNeg (v3_1 + 1)))]) (rest := [.int r90]) S hK hP jb_16 rfl (m_X6_count l X (fun q : Nat => s.heap.size ≤ q) hs M_1 (xs (Int32.toNatClampNeg (v3_1 + 1))) r91 M_91 e91) jw_X6_count ji_X6_count jmL_198 rfl rfl ⟨(Nat.le_of_ble_eq_true rfl), (Nat.le_of_ble_eq_true rfl)⟩ rfl hl.1 rfl (Nat.le_of_ble_eq_true rfl) dL_law_1485 ⟨(Nat.le_of_ble_eq_true rfl), (Nat.le_of_ble_eq_true rfl)⟩) hS (fun H locs hP hS => ?_)
        refine lv_icmp_eq (tgt := 1493) hx hb dL_law_1488 rfl (fun c1488 => ?_) (fun c1488 => ?_)
        · replace h := jh_t h c1488
          refine lv_iinc (v := (v3_1 + 6)) (lv' := [(3, .int (v3_1 + 6)), (0, .ref b), (1, .ref (jO X 0)), (2, .ref (jO X 16))]) hx hb dL_law_1493 hl (k := 3) rfl (congrArg _ jci_6) (Nat.le_of_ble_eq_true rfl) rfl (fun ls hl => ?_)
          refine lv_goto (tgt := 18) hx hb dL_law_1496 rfl ?_
          exact ih18 M_91 _ _ (v3_1 + 6) _ h hP hS (lv_sub hl [1, 2, 3, 0] rfl)
        · replace h := jh_f h c1488
          refine lv_iconst (v := 0) hx hb dL_law_1491 jci_0 ?_
          exact absurd (Option.some.inj h) (by decide)
      replace h := jh_f h c33_44
      refine jr_tdef (ks := [0, 1, 2, 3, 4, 5, 6, 7, 8, 9, 10, 11, 12, 13, 14, 15, 16, 17, 18, 19, 20, 21, 22, 23, 24, 25, 26, 27, 28, 29, 30, 31, 32, 33, 34, 35, 36, 37, 38, 39, 40, 41, 42, 43, 44]) (tgt := 1493) hx hb dL_law_33 (jsw_cons (jsw_ne c33_0 rfl) (jsw_cons (jsw_ne c33_1 rfl) (jsw_cons (jsw_ne c33_2 rfl) (jsw_cons (jsw_ne c33_3 rfl) (jsw_cons (jsw_ne c33_4 rfl) (jsw_cons (jsw_ne c33_5 rfl) (jsw_cons (jsw_ne c33_6 rfl) (jsw_cons (jsw_ne c33_7 rfl) (jsw_cons (jsw_ne c33_8 rfl) (jsw_cons (jsw_ne c33_9 rfl) (jsw_cons (jsw_ne c33_10 rfl) (jsw_cons (jsw_ne c33_11 rfl) (jsw_cons (jsw_ne c33_12 rfl) (jsw_cons (jsw_ne c33_13 rfl) (jsw_cons (jsw_ne c33_14 rfl) (jsw_cons (jsw_ne c33_15 rfl) (jsw_cons (jsw_ne c33_16 rfl) (jsw_cons (jsw_ne c33_17 rfl) (jsw_cons (jsw_ne c33_18 rfl) (jsw_cons (jsw_ne c33_19 rfl) (jsw_cons (jsw_ne c33_20 rfl) (jsw_cons (jsw_ne c33_21 rfl) (jsw_cons (jsw_ne c33_22 rfl) (jsw_cons (jsw_ne c33_23 rfl) (jsw_cons (jsw_ne c33_24 rfl) (jsw_cons (jsw_ne c33_25 rfl) (jsw_cons (jsw_ne c33_26 rfl) (jsw_cons (jsw_ne c33_27 rfl) (jsw_cons (jsw_ne c33_28 rfl) (jsw_cons (jsw_ne c33_29 rfl) (jsw_cons (jsw_ne c33_30 rfl) (jsw_cons (jsw_ne c33_31 rfl) (jsw_cons (jsw_ne c33_32 rfl) (jsw_cons (jsw_ne c33_33 rfl) (jsw_cons (jsw_ne c33_34 rfl) (jsw_cons (jsw_ne c33_35 rfl) (jsw_cons (jsw_ne c33_36 rfl) (jsw_cons (jsw_ne c33_37 rfl) (jsw_cons (jsw_ne c33_38 rfl) (jsw_cons (jsw_ne c33_39 rfl) (jsw_cons (jsw_ne c33_40 rfl) (jsw_cons (jsw_ne c33_41 rfl) (jsw_cons (jsw_ne c33_42 rfl) (jsw_cons (jsw_ne c33_43 rfl) (jsw_cons (jsw_ne c33_44 rfl) (jsw_nil)))))))))))))))))))))))))))))))))))))))))))))) (by decide) rfl ?_
      refine lv_iinc (v := (v3_1 + 6)) (lv' := [(3, .int (v3_1 + 6)), (0, .ref b), (1, .ref (jO X 0)), (2, .ref (jO X 16))]) hx hb dL_law_1493 hl (k := 3) rfl (congrArg _ jci_6) (Nat.le_of_ble_eq_true rfl) rfl (fun ls hl => ?_)
      refine lv_goto (tgt := 18) hx hb dL_law_1496 rfl ?_
      exact ih18 M_1 _ _ (v3_1 + 6) _ h hP hS (lv_sub hl [1, 2, 3, 0] rfl)
