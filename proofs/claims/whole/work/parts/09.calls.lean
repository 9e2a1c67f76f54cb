/-! CALL SITES, THROWS; what the tables say of them -/
def mm_codeW (k : Nat) : Cond := match mm_hs k with
  | [] => .code (mm_y k) (mm_b k) (mm_ml k) (mm_rt k)
  | h :: r => .codeWith (mm_y k) (mm_b k) (mm_ml k) (mm_rt k) (h :: r)
theorem mm_wcA_0 : ∀ j, j < 40 → ((0 + j) = 12 ∨ mm_codeW (0 + j) ∈ mm_tbl) := by
  intro j hj
  match j, hj with
  | 0, _ => exact Or.inr mm_wc0
  | 1, _ => exact Or.inr mm_wc1
  | 2, _ => exact Or.inr mm_wc2
  | 3, _ => exact Or.inr mm_wc3
  | 4, _ => exact Or.inr mm_wc4
  | 5, _ => exact Or.inr mm_wc5
  | 6, _ => exact Or.inr mm_wc6
  | 7, _ => exact Or.inr mm_wc7
  | 8, _ => exact Or.inr mm_wc8
  | 9, _ => exact Or.inr mm_wc9
  | 10, _ => exact Or.inr mm_wc10
  | 11, _ => exact Or.inr mm_wc11
  | 12, _ => exact Or.inl rfl
  | 13, _ => exact Or.inr mm_wc13
  | 14, _ => exact Or.inr mm_wc14
  | 15, _ => exact Or.inr mm_wc15
  | 16, _ => exact Or.inr mm_wc16
  | 17, _ => exact Or.inr mm_wc17
  | 18, _ => exact Or.inr mm_wc18
  | 19, _ => exact Or.inr mm_wc19
  | 20, _ => exact Or.inr mm_wc20
  | 21, _ => exact Or.inr mm_wc21
  | 22, _ => exact Or.inr mm_wc22
  | 23, _ => exact Or.inr mm_wc23
  | 24, _ => exact Or.inr mm_wc24
  | 25, _ => exact Or.inr mm_wc25
  | 26, _ => exact Or.inr mm_wc26
  | 27, _ => exact Or.inr mm_wc27
  | 28, _ => exact Or.inr mm_wc28
  | 29, _ => exact Or.inr mm_wc29
  | 30, _ => exact Or.inr mm_wc30
  | 31, _ => exact Or.inr mm_wc31
  | 32, _ => exact Or.inr mm_wc32
  | 33, _ => exact Or.inr mm_wc33
  | 34, _ => exact Or.inr mm_wc34
  | 35, _ => exact Or.inr mm_wc35
  | 36, _ => exact Or.inr mm_wc36
  | 37, _ => exact Or.inr mm_wc37
  | 38, _ => exact Or.inr mm_wc38
  | 39, _ => exact Or.inr mm_wc39
  | n + 40, h => exact absurd h (by omega)
theorem mm_wcA_40 : ∀ j, j < 40 → ((40 + j) = 12 ∨ mm_codeW (40 + j) ∈ mm_tbl) := by
  intro j hj
  match j, hj with
  | 0, _ => exact Or.inr mm_wc40
  | 1, _ => exact Or.inr mm_wc41
  | 2, _ => exact Or.inr mm_wc42
  | 3, _ => exact Or.inr mm_wc43
  | 4, _ => exact Or.inr mm_wc44
  | 5, _ => exact Or.inr mm_wc45
  | 6, _ => exact Or.inr mm_wc46
  | 7, _ => exact Or.inr mm_wc47
  | 8, _ => exact Or.inr mm_wc48
  | 9, _ => exact Or.inr mm_wc49
  | 10, _ => exact Or.inr mm_wc50
  | 11, _ => exact Or.inr mm_wc51
  | 12, _ => exact Or.inr mm_wc52
  | 13, _ => exact Or.inr mm_wc53
  | 14, _ => exact Or.inr mm_wc54
  | 15, _ => exact Or.inr mm_wc55
  | 16, _ => exact Or.inr mm_wc56
  | 17, _ => exact Or.inr mm_wc57
  | 18, _ => exact Or.inr mm_wc58
  | 19, _ => exact Or.inr mm_wc59
  | 20, _ => exact Or.inr mm_wc60
  | 21, _ => exact Or.inr mm_wc61
  | 22, _ => exact Or.inr mm_wc62
  | 23, _ => exact Or.inr mm_wc63
  | 24, _ => exact Or.inr mm_wc64
  | 25, _ => exact Or.inr mm_wc65
  | 26, _ => exact Or.inr mm_wc66
  | 27, _ => exact Or.inr mm_wc67
  | 28, _ => exact Or.inr mm_wc68
  | 29, _ => exact Or.inr mm_wc69
  | 30, _ => exact Or.inr mm_wc70
  | 31, _ => exact Or.inr mm_wc71
  | 32, _ => exact Or.inr mm_wc72
  | 33, _ => exact Or.inr mm_wc73
  | 34, _ => exact Or.inr mm_wc74
  | 35, _ => exact Or.inr mm_wc75
  | 36, _ => exact Or.inr mm_wc76
  | 37, _ => exact Or.inr mm_wc77
  | 38, _ => exact Or.inr mm_wc78
  | 39, _ => exact Or.inr mm_wc79
  | n + 40, h => exact absurd h (by omega)
theorem mm_wcA_80 : ∀ j, j < 40 → ((80 + j) = 12 ∨ mm_codeW (80 + j) ∈ mm_tbl) := by
  intro j hj
  match j, hj with
  | 0, _ => exact Or.inr mm_wc80
  | 1, _ => exact Or.inr mm_wc81
  | 2, _ => exact Or.inr mm_wc82
  | 3, _ => exact Or.inr mm_wc83
  | 4, _ => exact Or.inr mm_wc84
  | 5, _ => exact Or.inr mm_wc85
  | 6, _ => exact Or.inr mm_wc86
  | 7, _ => exact Or.inr mm_wc87
  | 8, _ => exact Or.inr mm_wc88
  | 9, _ => exact Or.inr mm_wc89
  | 10, _ => exact Or.inr mm_wc90
  | 11, _ => exact Or.inr mm_wc91
  | 12, _ => exact Or.inr mm_wc92
  | 13, _ => exact Or.inr mm_wc93
  | 14, _ => exact Or.inr mm_wc94
  | 15, _ => exact Or.inr mm_wc95
  | 16, _ => exact Or.inr mm_wc96
  | 17, _ => exact Or.inr mm_wc97
  | 18, _ => exact Or.inr mm_wc98
  | 19, _ => exact Or.inr mm_wc99
  | 20, _ => exact Or.inr mm_wc100
  | 21, _ => exact Or.inr mm_wc101
  | 22, _ => exact Or.inr mm_wc102
  | 23, _ => exact Or.inr mm_wc103
  | 24, _ => exact Or.inr mm_wc104
  | 25, _ => exact Or.inr mm_wc105
  | 26, _ => exact Or.inr mm_wc106
  | 27, _ => exact Or.inr mm_wc107
  | 28, _ => exact Or.inr mm_wc108
  | 29, _ => exact Or.inr mm_wc109
  | 30, _ => exact Or.inr mm_wc110
  | 31, _ => exact Or.inr mm_wc111
  | 32, _ => exact Or.inr mm_wc112
  | 33, _ => exact Or.inr mm_wc113
  | 34, _ => exact Or.inr mm_wc114
  | 35, _ => exact Or.inr mm_wc115
  | 36, _ => exact Or.inr mm_wc116
  | 37, _ => exact Or.inr mm_wc117
  | 38, _ => exact Or.inr mm_wc118
  | 39, _ => exact Or.inr mm_wc119
  | n + 40, h => exact absurd h (by omega)
theorem mm_wcA_120 : ∀ j, j < 40 → ((120 + j) = 12 ∨ mm_codeW (120 + j) ∈ mm_tbl) := by
  intro j hj
  match j, hj with
  | 0, _ => exact Or.inr mm_wc120
  | 1, _ => exact Or.inr mm_wc121
  | 2, _ => exact Or.inr mm_wc122
  | 3, _ => exact Or.inr mm_wc123
  | 4, _ => exact Or.inr mm_wc124
  | 5, _ => exact Or.inr mm_wc125
  | 6, _ => exact Or.inr mm_wc126
  | 7, _ => exact Or.inr mm_wc127
  | 8, _ => exact Or.inr mm_wc128
  | 9, _ => exact Or.inr mm_wc129
  | 10, _ => exact Or.inr mm_wc130
  | 11, _ => exact Or.inr mm_wc131
  | 12, _ => exact Or.inr mm_wc132
  | 13, _ => exact Or.inr mm_wc133
  | 14, _ => exact Or.inr mm_wc134
  | 15, _ => exact Or.inr mm_wc135
  | 16, _ => exact Or.inr mm_wc136
  | 17, _ => exact Or.inr mm_wc137
  | 18, _ => exact Or.inr mm_wc138
  | 19, _ => exact Or.inr mm_wc139
  | 20, _ => exact Or.inr mm_wc140
  | 21, _ => exact Or.inr mm_wc141
  | 22, _ => exact Or.inr mm_wc142
  | 23, _ => exact Or.inr mm_wc143
  | 24, _ => exact Or.inr mm_wc144
  | 25, _ => exact Or.inr mm_wc145
  | 26, _ => exact Or.inr mm_wc146
  | 27, _ => exact Or.inr mm_wc147
  | 28, _ => exact Or.inr mm_wc148
  | 29, _ => exact Or.inr mm_wc149
  | 30, _ => exact Or.inr mm_wc150
  | 31, _ => exact Or.inr mm_wc151
  | 32, _ => exact Or.inr mm_wc152
  | 33, _ => exact Or.inr mm_wc153
  | 34, _ => exact Or.inr mm_wc154
  | 35, _ => exact Or.inr mm_wc155
  | 36, _ => exact Or.inr mm_wc156
  | 37, _ => exact Or.inr mm_wc157
  | 38, _ => exact Or.inr mm_wc158
  | 39, _ => exact Or.inr mm_wc159
  | n + 40, h => exact absurd h (by omega)
theorem mm_wcA_160 : ∀ j, j < 40 → ((160 + j) = 12 ∨ mm_codeW (160 + j) ∈ mm_tbl) := by
  intro j hj
  match j, hj with
  | 0, _ => exact Or.inr mm_wc160
  | 1, _ => exact Or.inr mm_wc161
  | 2, _ => exact Or.inr mm_wc162
  | 3, _ => exact Or.inr mm_wc163
  | 4, _ => exact Or.inr mm_wc164
  | 5, _ => exact Or.inr mm_wc165
  | 6, _ => exact Or.inr mm_wc166
  | 7, _ => exact Or.inr mm_wc167
  | 8, _ => exact Or.inr mm_wc168
  | 9, _ => exact Or.inr mm_wc169
  | 10, _ => exact Or.inr mm_wc170
  | 11, _ => exact Or.inr mm_wc171
  | 12, _ => exact Or.inr mm_wc172
  | 13, _ => exact Or.inr mm_wc173
  | 14, _ => exact Or.inr mm_wc174
  | 15, _ => exact Or.inr mm_wc175
  | 16, _ => exact Or.inr mm_wc176
  | 17, _ => exact Or.inr mm_wc177
  | 18, _ => exact Or.inr mm_wc178
  | 19, _ => exact Or.inr mm_wc179
  | 20, _ => exact Or.inr mm_wc180
  | 21, _ => exact Or.inr mm_wc181
  | 22, _ => exact Or.inr mm_wc182
  | 23, _ => exact Or.inr mm_wc183
  | 24, _ => exact Or.inr mm_wc184
  | 25, _ => exact Or.inr mm_wc185
  | 26, _ => exact Or.inr mm_wc186
  | 27, _ => exact Or.inr mm_wc187
  | 28, _ => exact Or.inr mm_wc188
  | 29, _ => exact Or.inr mm_wc189
  | 30, _ => exact Or.inr mm_wc190
  | 31, _ => exact Or.inr mm_wc191
  | 32, _ => exact Or.inr mm_wc192
  | 33, _ => exact Or.inr mm_wc193
  | 34, _ => exact Or.inr mm_wc194
  | 35, _ => exact Or.inr mm_wc195
  | 36, _ => exact Or.inr mm_wc196
  | 37, _ => exact Or.inr mm_wc197
  | 38, _ => exact Or.inr mm_wc198
  | 39, _ => exact Or.inr mm_wc199
  | n + 40, h => exact absurd h (by omega)
theorem mm_wcA_200 : ∀ j, j < 40 → ((200 + j) = 12 ∨ mm_codeW (200 + j) ∈ mm_tbl) := by
  intro j hj
  match j, hj with
  | 0, _ => exact Or.inr mm_wc200
  | 1, _ => exact Or.inr mm_wc201
  | 2, _ => exact Or.inr mm_wc202
  | 3, _ => exact Or.inr mm_wc203
  | 4, _ => exact Or.inr mm_wc204
  | 5, _ => exact Or.inr mm_wc205
  | 6, _ => exact Or.inr mm_wc206
  | 7, _ => exact Or.inr mm_wc207
  | 8, _ => exact Or.inr mm_wc208
  | 9, _ => exact Or.inr mm_wc209
  | 10, _ => exact Or.inr mm_wc210
  | 11, _ => exact Or.inr mm_wc211
  | 12, _ => exact Or.inr mm_wc212
  | 13, _ => exact Or.inr mm_wc213
  | 14, _ => exact Or.inr mm_wc214
  | 15, _ => exact Or.inr mm_wc215
  | 16, _ => exact Or.inr mm_wc216
  | 17, _ => exact Or.inr mm_wc217
  | 18, _ => exact Or.inr mm_wc218
  | 19, _ => exact Or.inr mm_wc219
  | 20, _ => exact Or.inr mm_wc220
  | 21, _ => exact Or.inr mm_wc221
  | 22, _ => exact Or.inr mm_wc222
  | 23, _ => exact Or.inr mm_wc223
  | 24, _ => exact Or.inr mm_wc224
  | 25, _ => exact Or.inr mm_wc225
  | 26, _ => exact Or.inr mm_wc226
  | 27, _ => exact Or.inr mm_wc227
  | 28, _ => exact Or.inr mm_wc228
  | 29, _ => exact Or.inr mm_wc229
  | 30, _ => exact Or.inr mm_wc230
  | 31, _ => exact Or.inr mm_wc231
  | 32, _ => exact Or.inr mm_wc232
  | 33, _ => exact Or.inr mm_wc233
  | 34, _ => exact Or.inr mm_wc234
  | 35, _ => exact Or.inr mm_wc235
  | 36, _ => exact Or.inr mm_wc236
  | 37, _ => exact Or.inr mm_wc237
  | 38, _ => exact Or.inr mm_wc238
  | 39, _ => exact Or.inr mm_wc239
  | n + 40, h => exact absurd h (by omega)
theorem mm_wcA_240 : ∀ j, j < 40 → ((240 + j) = 12 ∨ mm_codeW (240 + j) ∈ mm_tbl) := by
  intro j hj
  match j, hj with
  | 0, _ => exact Or.inr mm_wc240
  | 1, _ => exact Or.inr mm_wc241
  | 2, _ => exact Or.inr mm_wc242
  | 3, _ => exact Or.inr mm_wc243
  | 4, _ => exact Or.inr mm_wc244
  | 5, _ => exact Or.inr mm_wc245
  | 6, _ => exact Or.inr mm_wc246
  | 7, _ => exact Or.inr mm_wc247
  | 8, _ => exact Or.inr mm_wc248
  | 9, _ => exact Or.inr mm_wc249
  | 10, _ => exact Or.inr mm_wc250
  | 11, _ => exact Or.inr mm_wc251
  | 12, _ => exact Or.inr mm_wc252
  | 13, _ => exact Or.inr mm_wc253
  | 14, _ => exact Or.inr mm_wc254
  | 15, _ => exact Or.inr mm_wc255
  | 16, _ => exact Or.inr mm_wc256
  | 17, _ => exact Or.inr mm_wc257
  | 18, _ => exact Or.inr mm_wc258
  | 19, _ => exact Or.inr mm_wc259
  | 20, _ => exact Or.inr mm_wc260
  | 21, _ => exact Or.inr mm_wc261
  | 22, _ => exact Or.inr mm_wc262
  | 23, _ => exact Or.inr mm_wc263
  | 24, _ => exact Or.inr mm_wc264
  | 25, _ => exact Or.inr mm_wc265
  | 26, _ => exact Or.inr mm_wc266
  | 27, _ => exact Or.inr mm_wc267
  | 28, _ => exact Or.inr mm_wc268
  | 29, _ => exact Or.inr mm_wc269
  | 30, _ => exact Or.inr mm_wc270
  | 31, _ => exact Or.inr mm_wc271
  | 32, _ => exact Or.inr mm_wc272
  | 33, _ => exact Or.inr mm_wc273
  | 34, _ => exact Or.inr mm_wc274
  | 35, _ => exact Or.inr mm_wc275
  | 36, _ => exact Or.inr mm_wc276
  | 37, _ => exact Or.inr mm_wc277
  | 38, _ => exact Or.inr mm_wc278
  | 39, _ => exact Or.inr mm_wc279
  | n + 40, h => exact absurd h (by omega)
theorem mm_wcA_280 : ∀ j, j < 11 → ((280 + j) = 12 ∨ mm_codeW (280 + j) ∈ mm_tbl) := by
  intro j hj
  match j, hj with
  | 0, _ => exact Or.inr mm_wc280
  | 1, _ => exact Or.inr mm_wc281
  | 2, _ => exact Or.inr mm_wc282
  | 3, _ => exact Or.inr mm_wc283
  | 4, _ => exact Or.inr mm_wc284
  | 5, _ => exact Or.inr mm_wc285
  | 6, _ => exact Or.inr mm_wc286
  | 7, _ => exact Or.inr mm_wc287
  | 8, _ => exact Or.inr mm_wc288
  | 9, _ => exact Or.inr mm_wc289
  | 10, _ => exact Or.inr mm_wc290
  | n + 11, h => exact absurd h (by omega)
theorem mm_wcA : ∀ k, k < 291 → (k = 12 ∨ mm_codeW k ∈ mm_tbl) := by
  intro k hk
  by_cases h0 : k < 40
  · have h := mm_wcA_0 (k - 0) (by omega)
    rw [show 0 + (k - 0) = k by omega] at h
    exact h
  by_cases h40 : k < 80
  · have h := mm_wcA_40 (k - 40) (by omega)
    rw [show 40 + (k - 40) = k by omega] at h
    exact h
  by_cases h80 : k < 120
  · have h := mm_wcA_80 (k - 80) (by omega)
    rw [show 80 + (k - 80) = k by omega] at h
    exact h
  by_cases h120 : k < 160
  · have h := mm_wcA_120 (k - 120) (by omega)
    rw [show 120 + (k - 120) = k by omega] at h
    exact h
  by_cases h160 : k < 200
  · have h := mm_wcA_160 (k - 160) (by omega)
    rw [show 160 + (k - 160) = k by omega] at h
    exact h
  by_cases h200 : k < 240
  · have h := mm_wcA_200 (k - 200) (by omega)
    rw [show 200 + (k - 200) = k by omega] at h
    exact h
  by_cases h240 : k < 280
  · have h := mm_wcA_240 (k - 240) (by omega)
    rw [show 240 + (k - 240) = k by omega] at h
    exact h
  by_cases h280 : k < 291
  · have h := mm_wcA_280 (k - 280) (by omega)
    rw [show 280 + (k - 280) = k by omega] at h
    exact h
  omega
theorem mm_wsA_0 : ∀ j, j < 40 → ((0 + j) = 12 ∨ (bif mm_sta (0 + j) then Cond.static (mm_y (0 + j)) else Cond.instanceMethod (mm_y (0 + j))) ∈ mm_tbl) := by
  intro j hj
  match j, hj with
  | 0, _ => exact Or.inr (mm_tb mm_ws0)
  | 1, _ => exact Or.inr (mm_tb mm_ws1)
  | 2, _ => exact Or.inr (mm_tb mm_ws2)
  | 3, _ => exact Or.inr (mm_tb mm_ws3)
  | 4, _ => exact Or.inr (mm_tb mm_ws4)
  | 5, _ => exact Or.inr (mm_tb mm_ws5)
  | 6, _ => exact Or.inr (mm_tb mm_ws6)
  | 7, _ => exact Or.inr (mm_tb mm_ws7)
  | 8, _ => exact Or.inr (mm_tb mm_ws8)
  | 9, _ => exact Or.inr (mm_tb mm_ws9)
  | 10, _ => exact Or.inr (mm_tb mm_ws10)
  | 11, _ => exact Or.inr (mm_tb mm_ws11)
  | 12, _ => exact Or.inl rfl
  | 13, _ => exact Or.inr (mm_tb mm_ws13)
  | 14, _ => exact Or.inr (mm_tb mm_ws14)
  | 15, _ => exact Or.inr (mm_tb mm_ws15)
  | 16, _ => exact Or.inr (mm_tb mm_ws16)
  | 17, _ => exact Or.inr (mm_tb mm_ws17)
  | 18, _ => exact Or.inr (mm_tb mm_ws18)
  | 19, _ => exact Or.inr (mm_tb mm_ws19)
  | 20, _ => exact Or.inr (mm_tb mm_ws20)
  | 21, _ => exact Or.inr (mm_tb mm_ws21)
  | 22, _ => exact Or.inr (mm_tb mm_ws22)
  | 23, _ => exact Or.inr (mm_tb mm_ws23)
  | 24, _ => exact Or.inr (mm_tb mm_ws24)
  | 25, _ => exact Or.inr (mm_tb mm_ws25)
  | 26, _ => exact Or.inr (mm_tb mm_ws26)
  | 27, _ => exact Or.inr (mm_tb mm_ws27)
  | 28, _ => exact Or.inr (mm_tb mm_ws28)
  | 29, _ => exact Or.inr (mm_tb mm_ws29)
  | 30, _ => exact Or.inr (mm_tb mm_ws30)
  | 31, _ => exact Or.inr (mm_tb mm_ws31)
  | 32, _ => exact Or.inr (mm_tb mm_ws32)
  | 33, _ => exact Or.inr (mm_tb mm_ws33)
  | 34, _ => exact Or.inr (mm_tb mm_ws34)
  | 35, _ => exact Or.inr (mm_tb mm_ws35)
  | 36, _ => exact Or.inr (mm_tb mm_ws36)
  | 37, _ => exact Or.inr (mm_tb mm_ws37)
  | 38, _ => exact Or.inr (mm_tb mm_ws38)
  | 39, _ => exact Or.inr (mm_tb mm_ws39)
  | n + 40, h => exact absurd h (by omega)
theorem mm_wsA_40 : ∀ j, j < 40 → ((40 + j) = 12 ∨ (bif mm_sta (40 + j) then Cond.static (mm_y (40 + j)) else Cond.instanceMethod (mm_y (40 + j))) ∈ mm_tbl) := by
  intro j hj
  match j, hj with
  | 0, _ => exact Or.inr (mm_tb mm_ws40)
  | 1, _ => exact Or.inr (mm_tb mm_ws41)
  | 2, _ => exact Or.inr (mm_tb mm_ws42)
  | 3, _ => exact Or.inr (mm_tb mm_ws43)
  | 4, _ => exact Or.inr (mm_tb mm_ws44)
  | 5, _ => exact Or.inr (mm_tb mm_ws45)
  | 6, _ => exact Or.inr (mm_tb mm_ws46)
  | 7, _ => exact Or.inr (mm_tb mm_ws47)
  | 8, _ => exact Or.inr (mm_tb mm_ws48)
  | 9, _ => exact Or.inr (mm_tb mm_ws49)
  | 10, _ => exact Or.inr (mm_tb mm_ws50)
  | 11, _ => exact Or.inr (mm_tb mm_ws51)
  | 12, _ => exact Or.inr (mm_tb mm_ws52)
  | 13, _ => exact Or.inr (mm_tb mm_ws53)
  | 14, _ => exact Or.inr (mm_tb mm_ws54)
  | 15, _ => exact Or.inr (mm_tb mm_ws55)
  | 16, _ => exact Or.inr (mm_tb mm_ws56)
  | 17, _ => exact Or.inr (mm_tb mm_ws57)
  | 18, _ => exact Or.inr (mm_tb mm_ws58)
  | 19, _ => exact Or.inr (mm_tb mm_ws59)
  | 20, _ => exact Or.inr (mm_tb mm_ws60)
  | 21, _ => exact Or.inr (mm_tb mm_ws61)
  | 22, _ => exact Or.inr (mm_tb mm_ws62)
  | 23, _ => exact Or.inr (mm_tb mm_ws63)
  | 24, _ => exact Or.inr (mm_tb mm_ws64)
  | 25, _ => exact Or.inr (mm_tb mm_ws65)
  | 26, _ => exact Or.inr (mm_tb mm_ws66)
  | 27, _ => exact Or.inr (mm_tb mm_ws67)
  | 28, _ => exact Or.inr (mm_tb mm_ws68)
  | 29, _ => exact Or.inr (mm_tb mm_ws69)
  | 30, _ => exact Or.inr (mm_tb mm_ws70)
  | 31, _ => exact Or.inr (mm_tb mm_ws71)
  | 32, _ => exact Or.inr (mm_tb mm_ws72)
  | 33, _ => exact Or.inr (mm_tb mm_ws73)
  | 34, _ => exact Or.inr (mm_tb mm_ws74)
  | 35, _ => exact Or.inr (mm_tb mm_ws75)
  | 36, _ => exact Or.inr (mm_tb mm_ws76)
  | 37, _ => exact Or.inr (mm_tb mm_ws77)
  | 38, _ => exact Or.inr (mm_tb mm_ws78)
  | 39, _ => exact Or.inr (mm_tb mm_ws79)
  | n + 40, h => exact absurd h (by omega)
theorem mm_wsA_80 : ∀ j, j < 40 → ((80 + j) = 12 ∨ (bif mm_sta (80 + j) then Cond.static (mm_y (80 + j)) else Cond.instanceMethod (mm_y (80 + j))) ∈ mm_tbl) := by
  intro j hj
  match j, hj with
  | 0, _ => exact Or.inr (mm_tb mm_ws80)
  | 1, _ => exact Or.inr (mm_tb mm_ws81)
  | 2, _ => exact Or.inr (mm_tb mm_ws82)
  | 3, _ => exact Or.inr (mm_tb mm_ws83)
  | 4, _ => exact Or.inr (mm_tb mm_ws84)
  | 5, _ => exact Or.inr (mm_tb mm_ws85)
  | 6, _ => exact Or.inr (mm_tb mm_ws86)
  | 7, _ => exact Or.inr (mm_tb mm_ws87)
  | 8, _ => exact Or.inr (mm_tb mm_ws88)
  | 9, _ => exact Or.inr (mm_tb mm_ws89)
  | 10, _ => exact Or.inr (mm_tb mm_ws90)
  | 11, _ => exact Or.inr (mm_tb mm_ws91)
  | 12, _ => exact Or.inr (mm_tb mm_ws92)
  | 13, _ => exact Or.inr (mm_tb mm_ws93)
  | 14, _ => exact Or.inr (mm_tb mm_ws94)
  | 15, _ => exact Or.inr (mm_tb mm_ws95)
  | 16, _ => exact Or.inr (mm_tb mm_ws96)
  | 17, _ => exact Or.inr (mm_tb mm_ws97)
  | 18, _ => exact Or.inr (mm_tb mm_ws98)
  | 19, _ => exact Or.inr (mm_tb mm_ws99)
  | 20, _ => exact Or.inr (mm_tb mm_ws100)
  | 21, _ => exact Or.inr (mm_tb mm_ws101)
  | 22, _ => exact Or.inr (mm_tb mm_ws102)
  | 23, _ => exact Or.inr (mm_tb mm_ws103)
  | 24, _ => exact Or.inr (mm_tb mm_ws104)
  | 25, _ => exact Or.inr (mm_tb mm_ws105)
  | 26, _ => exact Or.inr (mm_tb mm_ws106)
  | 27, _ => exact Or.inr (mm_tb mm_ws107)
  | 28, _ => exact Or.inr (mm_tb mm_ws108)
  | 29, _ => exact Or.inr (mm_tb mm_ws109)
  | 30, _ => exact Or.inr (mm_tb mm_ws110)
  | 31, _ => exact Or.inr (mm_tb mm_ws111)
  | 32, _ => exact Or.inr (mm_tb mm_ws112)
  | 33, _ => exact Or.inr (mm_tb mm_ws113)
  | 34, _ => exact Or.inr (mm_tb mm_ws114)
  | 35, _ => exact Or.inr (mm_tb mm_ws115)
  | 36, _ => exact Or.inr (mm_tb mm_ws116)
  | 37, _ => exact Or.inr (mm_tb mm_ws117)
  | 38, _ => exact Or.inr (mm_tb mm_ws118)
  | 39, _ => exact Or.inr (mm_tb mm_ws119)
  | n + 40, h => exact absurd h (by omega)
theorem mm_wsA_120 : ∀ j, j < 40 → ((120 + j) = 12 ∨ (bif mm_sta (120 + j) then Cond.static (mm_y (120 + j)) else Cond.instanceMethod (mm_y (120 + j))) ∈ mm_tbl) := by
  intro j hj
  match j, hj with
  | 0, _ => exact Or.inr (mm_tb mm_ws120)
  | 1, _ => exact Or.inr (mm_tb mm_ws121)
  | 2, _ => exact Or.inr (mm_tb mm_ws122)
  | 3, _ => exact Or.inr (mm_tb mm_ws123)
  | 4, _ => exact Or.inr (mm_tb mm_ws124)
  | 5, _ => exact Or.inr (mm_tb mm_ws125)
  | 6, _ => exact Or.inr (mm_tb mm_ws126)
  | 7, _ => exact Or.inr (mm_tb mm_ws127)
  | 8, _ => exact Or.inr (mm_tb mm_ws128)
  | 9, _ => exact Or.inr (mm_tb mm_ws129)
  | 10, _ => exact Or.inr (mm_tb mm_ws130)
  | 11, _ => exact Or.inr (mm_tb mm_ws131)
  | 12, _ => exact Or.inr (mm_tb mm_ws132)
  | 13, _ => exact Or.inr (mm_tb mm_ws133)
  | 14, _ => exact Or.inr (mm_tb mm_ws134)
  | 15, _ => exact Or.inr (mm_tb mm_ws135)
  | 16, _ => exact Or.inr (mm_tb mm_ws136)
  | 17, _ => exact Or.inr (mm_tb mm_ws137)
  | 18, _ => exact Or.inr (mm_tb mm_ws138)
  | 19, _ => exact Or.inr (mm_tb mm_ws139)
  | 20, _ => exact Or.inr (mm_tb mm_ws140)
  | 21, _ => exact Or.inr (mm_tb mm_ws141)
  | 22, _ => exact Or.inr (mm_tb mm_ws142)
  | 23, _ => exact Or.inr (mm_tb mm_ws143)
  | 24, _ => exact Or.inr (mm_tb mm_ws144)
  | 25, _ => exact Or.inr (mm_tb mm_ws145)
  | 26, _ => exact Or.inr (mm_tb mm_ws146)
  | 27, _ => exact Or.inr (mm_tb mm_ws147)
  | 28, _ => exact Or.inr (mm_tb mm_ws148)
  | 29, _ => exact Or.inr (mm_tb mm_ws149)
  | 30, _ => exact Or.inr (mm_tb mm_ws150)
  | 31, _ => exact Or.inr (mm_tb mm_ws151)
  | 32, _ => exact Or.inr (mm_tb mm_ws152)
  | 33, _ => exact Or.inr (mm_tb mm_ws153)
  | 34, _ => exact Or.inr (mm_tb mm_ws154)
  | 35, _ => exact Or.inr (mm_tb mm_ws155)
  | 36, _ => exact Or.inr (mm_tb mm_ws156)
  | 37, _ => exact Or.inr (mm_tb mm_ws157)
  | 38, _ => exact Or.inr (mm_tb mm_ws158)
  | 39, _ => exact Or.inr (mm_tb mm_ws159)
  | n + 40, h => exact absurd h (by omega)
theorem mm_wsA_160 : ∀ j, j < 40 → ((160 + j) = 12 ∨ (bif mm_sta (160 + j) then Cond.static (mm_y (160 + j)) else Cond.instanceMethod (mm_y (160 + j))) ∈ mm_tbl) := by
  intro j hj
  match j, hj with
  | 0, _ => exact Or.inr (mm_tb mm_ws160)
  | 1, _ => exact Or.inr (mm_tb mm_ws161)
  | 2, _ => exact Or.inr (mm_tb mm_ws162)
  | 3, _ => exact Or.inr (mm_tb mm_ws163)
  | 4, _ => exact Or.inr (mm_tb mm_ws164)
  | 5, _ => exact Or.inr (mm_tb mm_ws165)
  | 6, _ => exact Or.inr (mm_tb mm_ws166)
  | 7, _ => exact Or.inr (mm_tb mm_ws167)
  | 8, _ => exact Or.inr (mm_tb mm_ws168)
  | 9, _ => exact Or.inr (mm_tb mm_ws169)
  | 10, _ => exact Or.inr (mm_tb mm_ws170)
  | 11, _ => exact Or.inr (mm_tb mm_ws171)
  | 12, _ => exact Or.inr (mm_tb mm_ws172)
  | 13, _ => exact Or.inr (mm_tb mm_ws173)
  | 14, _ => exact Or.inr (mm_tb mm_ws174)
  | 15, _ => exact Or.inr (mm_tb mm_ws175)
  | 16, _ => exact Or.inr (mm_tb mm_ws176)
  | 17, _ => exact Or.inr (mm_tb mm_ws177)
  | 18, _ => exact Or.inr (mm_tb mm_ws178)
  | 19, _ => exact Or.inr (mm_tb mm_ws179)
  | 20, _ => exact Or.inr (mm_tb mm_ws180)
  | 21, _ => exact Or.inr (mm_tb mm_ws181)
  | 22, _ => exact Or.inr (mm_tb mm_ws182)
  | 23, _ => exact Or.inr (mm_tb mm_ws183)
  | 24, _ => exact Or.inr (mm_tb mm_ws184)
  | 25, _ => exact Or.inr (mm_tb mm_ws185)
  | 26, _ => exact Or.inr (mm_tb mm_ws186)
  | 27, _ => exact Or.inr (mm_tb mm_ws187)
  | 28, _ => exact Or.inr (mm_tb mm_ws188)
  | 29, _ => exact Or.inr (mm_tb mm_ws189)
  | 30, _ => exact Or.inr (mm_tb mm_ws190)
  | 31, _ => exact Or.inr (mm_tb mm_ws191)
  | 32, _ => exact Or.inr (mm_tb mm_ws192)
  | 33, _ => exact Or.inr (mm_tb mm_ws193)
  | 34, _ => exact Or.inr (mm_tb mm_ws194)
  | 35, _ => exact Or.inr (mm_tb mm_ws195)
  | 36, _ => exact Or.inr (mm_tb mm_ws196)
  | 37, _ => exact Or.inr (mm_tb mm_ws197)
  | 38, _ => exact Or.inr (mm_tb mm_ws198)
  | 39, _ => exact Or.inr (mm_tb mm_ws199)
  | n + 40, h => exact absurd h (by omega)
theorem mm_wsA_200 : ∀ j, j < 40 → ((200 + j) = 12 ∨ (bif mm_sta (200 + j) then Cond.static (mm_y (200 + j)) else Cond.instanceMethod (mm_y (200 + j))) ∈ mm_tbl) := by
  intro j hj
  match j, hj with
  | 0, _ => exact Or.inr (mm_tb mm_ws200)
  | 1, _ => exact Or.inr (mm_tb mm_ws201)
  | 2, _ => exact Or.inr (mm_tb mm_ws202)
  | 3, _ => exact Or.inr (mm_tb mm_ws203)
  | 4, _ => exact Or.inr (mm_tb mm_ws204)
  | 5, _ => exact Or.inr (mm_tb mm_ws205)
  | 6, _ => exact Or.inr (mm_tb mm_ws206)
  | 7, _ => exact Or.inr (mm_tb mm_ws207)
  | 8, _ => exact Or.inr (mm_tb mm_ws208)
  | 9, _ => exact Or.inr (mm_tb mm_ws209)
  | 10, _ => exact Or.inr (mm_tb mm_ws210)
  | 11, _ => exact Or.inr (mm_tb mm_ws211)
  | 12, _ => exact Or.inr (mm_tb mm_ws212)
  | 13, _ => exact Or.inr (mm_tb mm_ws213)
  | 14, _ => exact Or.inr (mm_tb mm_ws214)
  | 15, _ => exact Or.inr (mm_tb mm_ws215)
  | 16, _ => exact Or.inr (mm_tb mm_ws216)
  | 17, _ => exact Or.inr (mm_tb mm_ws217)
  | 18, _ => exact Or.inr (mm_tb mm_ws218)
  | 19, _ => exact Or.inr (mm_tb mm_ws219)
  | 20, _ => exact Or.inr (mm_tb mm_ws220)
  | 21, _ => exact Or.inr (mm_tb mm_ws221)
  | 22, _ => exact Or.inr (mm_tb mm_ws222)
  | 23, _ => exact Or.inr (mm_tb mm_ws223)
  | 24, _ => exact Or.inr (mm_tb mm_ws224)
  | 25, _ => exact Or.inr (mm_tb mm_ws225)
  | 26, _ => exact Or.inr (mm_tb mm_ws226)
  | 27, _ => exact Or.inr (mm_tb mm_ws227)
  | 28, _ => exact Or.inr (mm_tb mm_ws228)
  | 29, _ => exact Or.inr (mm_tb mm_ws229)
  | 30, _ => exact Or.inr (mm_tb mm_ws230)
  | 31, _ => exact Or.inr (mm_tb mm_ws231)
  | 32, _ => exact Or.inr (mm_tb mm_ws232)
  | 33, _ => exact Or.inr (mm_tb mm_ws233)
  | 34, _ => exact Or.inr (mm_tb mm_ws234)
  | 35, _ => exact Or.inr (mm_tb mm_ws235)
  | 36, _ => exact Or.inr (mm_tb mm_ws236)
  | 37, _ => exact Or.inr (mm_tb mm_ws237)
  | 38, _ => exact Or.inr (mm_tb mm_ws238)
  | 39, _ => exact Or.inr (mm_tb mm_ws239)
  | n + 40, h => exact absurd h (by omega)
theorem mm_wsA_240 : ∀ j, j < 40 → ((240 + j) = 12 ∨ (bif mm_sta (240 + j) then Cond.static (mm_y (240 + j)) else Cond.instanceMethod (mm_y (240 + j))) ∈ mm_tbl) := by
  intro j hj
  match j, hj with
  | 0, _ => exact Or.inr (mm_tb mm_ws240)
  | 1, _ => exact Or.inr (mm_tb mm_ws241)
  | 2, _ => exact Or.inr (mm_tb mm_ws242)
  | 3, _ => exact Or.inr (mm_tb mm_ws243)
  | 4, _ => exact Or.inr (mm_tb mm_ws244)
  | 5, _ => exact Or.inr (mm_tb mm_ws245)
  | 6, _ => exact Or.inr (mm_tb mm_ws246)
  | 7, _ => exact Or.inr (mm_tb mm_ws247)
  | 8, _ => exact Or.inr (mm_tb mm_ws248)
  | 9, _ => exact Or.inr (mm_tb mm_ws249)
  | 10, _ => exact Or.inr (mm_tb mm_ws250)
  | 11, _ => exact Or.inr (mm_tb mm_ws251)
  | 12, _ => exact Or.inr (mm_tb mm_ws252)
  | 13, _ => exact Or.inr (mm_tb mm_ws253)
  | 14, _ => exact Or.inr (mm_tb mm_ws254)
  | 15, _ => exact Or.inr (mm_tb mm_ws255)
  | 16, _ => exact Or.inr (mm_tb mm_ws256)
  | 17, _ => exact Or.inr (mm_tb mm_ws257)
  | 18, _ => exact Or.inr (mm_tb mm_ws258)
  | 19, _ => exact Or.inr (mm_tb mm_ws259)
  | 20, _ => exact Or.inr (mm_tb mm_ws260)
  | 21, _ => exact Or.inr (mm_tb mm_ws261)
  | 22, _ => exact Or.inr (mm_tb mm_ws262)
  | 23, _ => exact Or.inr (mm_tb mm_ws263)
  | 24, _ => exact Or.inr (mm_tb mm_ws264)
  | 25, _ => exact Or.inr (mm_tb mm_ws265)
  | 26, _ => exact Or.inr (mm_tb mm_ws266)
  | 27, _ => exact Or.inr (mm_tb mm_ws267)
  | 28, _ => exact Or.inr (mm_tb mm_ws268)
  | 29, _ => exact Or.inr (mm_tb mm_ws269)
  | 30, _ => exact Or.inr (mm_tb mm_ws270)
  | 31, _ => exact Or.inr (mm_tb mm_ws271)
  | 32, _ => exact Or.inr (mm_tb mm_ws272)
  | 33, _ => exact Or.inr (mm_tb mm_ws273)
  | 34, _ => exact Or.inr (mm_tb mm_ws274)
  | 35, _ => exact Or.inr (mm_tb mm_ws275)
  | 36, _ => exact Or.inr (mm_tb mm_ws276)
  | 37, _ => exact Or.inr (mm_tb mm_ws277)
  | 38, _ => exact Or.inr (mm_tb mm_ws278)
  | 39, _ => exact Or.inr (mm_tb mm_ws279)
  | n + 40, h => exact absurd h (by omega)
theorem mm_wsA_280 : ∀ j, j < 11 → ((280 + j) = 12 ∨ (bif mm_sta (280 + j) then Cond.static (mm_y (280 + j)) else Cond.instanceMethod (mm_y (280 + j))) ∈ mm_tbl) := by
  intro j hj
  match j, hj with
  | 0, _ => exact Or.inr (mm_tb mm_ws280)
  | 1, _ => exact Or.inr (mm_tb mm_ws281)
  | 2, _ => exact Or.inr (mm_tb mm_ws282)
  | 3, _ => exact Or.inr (mm_tb mm_ws283)
  | 4, _ => exact Or.inr (mm_tb mm_ws284)
  | 5, _ => exact Or.inr (mm_tb mm_ws285)
  | 6, _ => exact Or.inr (mm_tb mm_ws286)
  | 7, _ => exact Or.inr (mm_tb mm_ws287)
  | 8, _ => exact Or.inr (mm_tb mm_ws288)
  | 9, _ => exact Or.inr (mm_tb mm_ws289)
  | 10, _ => exact Or.inr (mm_tb mm_ws290)
  | n + 11, h => exact absurd h (by omega)
theorem mm_wsA : ∀ k, k < 291 → (k = 12 ∨ (bif mm_sta k then Cond.static (mm_y k) else Cond.instanceMethod (mm_y k)) ∈ mm_tbl) := by
  intro k hk
  by_cases h0 : k < 40
  · have h := mm_wsA_0 (k - 0) (by omega)
    rw [show 0 + (k - 0) = k by omega] at h
    exact h
  by_cases h40 : k < 80
  · have h := mm_wsA_40 (k - 40) (by omega)
    rw [show 40 + (k - 40) = k by omega] at h
    exact h
  by_cases h80 : k < 120
  · have h := mm_wsA_80 (k - 80) (by omega)
    rw [show 80 + (k - 80) = k by omega] at h
    exact h
  by_cases h120 : k < 160
  · have h := mm_wsA_120 (k - 120) (by omega)
    rw [show 120 + (k - 120) = k by omega] at h
    exact h
  by_cases h160 : k < 200
  · have h := mm_wsA_160 (k - 160) (by omega)
    rw [show 160 + (k - 160) = k by omega] at h
    exact h
  by_cases h200 : k < 240
  · have h := mm_wsA_200 (k - 200) (by omega)
    rw [show 200 + (k - 200) = k by omega] at h
    exact h
  by_cases h240 : k < 280
  · have h := mm_wsA_240 (k - 240) (by omega)
    rw [show 240 + (k - 240) = k by omega] at h
    exact h
  by_cases h280 : k < 291
  · have h := mm_wsA_280 (k - 280) (by omega)
    rw [show 280 + (k - 280) = k by omega] at h
    exact h
  omega
theorem mm_weA_0 : ∀ j, j < 40 → (mm_sta (0 + j) = true ∨ Cond.selects (mm_cn (mm_own (0 + j))) (mm_y (0 + j)) (mm_y (0 + j)) ∈ mm_tbl) := by
  intro j hj
  match j, hj with
  | 0, _ => exact Or.inl rfl
  | 1, _ => exact Or.inl rfl
  | 2, _ => exact Or.inl rfl
  | 3, _ => exact Or.inl rfl
  | 4, _ => exact Or.inl rfl
  | 5, _ => exact Or.inl rfl
  | 6, _ => exact Or.inl rfl
  | 7, _ => exact Or.inl rfl
  | 8, _ => exact Or.inl rfl
  | 9, _ => exact Or.inl rfl
  | 10, _ => exact Or.inl rfl
  | 11, _ => exact Or.inl rfl
  | 12, _ => exact Or.inl rfl
  | 13, _ => exact Or.inr mm_we13
  | 14, _ => exact Or.inr mm_we14
  | 15, _ => exact Or.inr mm_we15
  | 16, _ => exact Or.inr mm_we16
  | 17, _ => exact Or.inr mm_we17
  | 18, _ => exact Or.inr mm_we18
  | 19, _ => exact Or.inr mm_we19
  | 20, _ => exact Or.inr mm_we20
  | 21, _ => exact Or.inr mm_we21
  | 22, _ => exact Or.inr mm_we22
  | 23, _ => exact Or.inr mm_we23
  | 24, _ => exact Or.inr mm_we24
  | 25, _ => exact Or.inr mm_we25
  | 26, _ => exact Or.inl rfl
  | 27, _ => exact Or.inl rfl
  | 28, _ => exact Or.inl rfl
  | 29, _ => exact Or.inl rfl
  | 30, _ => exact Or.inl rfl
  | 31, _ => exact Or.inl rfl
  | 32, _ => exact Or.inl rfl
  | 33, _ => exact Or.inl rfl
  | 34, _ => exact Or.inl rfl
  | 35, _ => exact Or.inr mm_we35
  | 36, _ => exact Or.inr mm_we36
  | 37, _ => exact Or.inr mm_we37
  | 38, _ => exact Or.inr mm_we38
  | 39, _ => exact Or.inr mm_we39
  | n + 40, h => exact absurd h (by omega)
theorem mm_weA_40 : ∀ j, j < 40 → (mm_sta (40 + j) = true ∨ Cond.selects (mm_cn (mm_own (40 + j))) (mm_y (40 + j)) (mm_y (40 + j)) ∈ mm_tbl) := by
  intro j hj
  match j, hj with
  | 0, _ => exact Or.inr mm_we40
  | 1, _ => exact Or.inr mm_we41
  | 2, _ => exact Or.inr mm_we42
  | 3, _ => exact Or.inr mm_we43
  | 4, _ => exact Or.inr mm_we44
  | 5, _ => exact Or.inr mm_we45
  | 6, _ => exact Or.inr mm_we46
  | 7, _ => exact Or.inr mm_we47
  | 8, _ => exact Or.inr mm_we48
  | 9, _ => exact Or.inr mm_we49
  | 10, _ => exact Or.inr mm_we50
  | 11, _ => exact Or.inr mm_we51
  | 12, _ => exact Or.inr mm_we52
  | 13, _ => exact Or.inr mm_we53
  | 14, _ => exact Or.inr mm_we54
  | 15, _ => exact Or.inr mm_we55
  | 16, _ => exact Or.inr mm_we56
  | 17, _ => exact Or.inr mm_we57
  | 18, _ => exact Or.inr mm_we58
  | 19, _ => exact Or.inr mm_we59
  | 20, _ => exact Or.inr mm_we60
  | 21, _ => exact Or.inr mm_we61
  | 22, _ => exact Or.inr mm_we62
  | 23, _ => exact Or.inr mm_we63
  | 24, _ => exact Or.inr mm_we64
  | 25, _ => exact Or.inr mm_we65
  | 26, _ => exact Or.inr mm_we66
  | 27, _ => exact Or.inr mm_we67
  | 28, _ => exact Or.inr mm_we68
  | 29, _ => exact Or.inr mm_we69
  | 30, _ => exact Or.inr mm_we70
  | 31, _ => exact Or.inr mm_we71
  | 32, _ => exact Or.inr mm_we72
  | 33, _ => exact Or.inr mm_we73
  | 34, _ => exact Or.inr mm_we74
  | 35, _ => exact Or.inr mm_we75
  | 36, _ => exact Or.inr mm_we76
  | 37, _ => exact Or.inr mm_we77
  | 38, _ => exact Or.inr mm_we78
  | 39, _ => exact Or.inr mm_we79
  | n + 40, h => exact absurd h (by omega)
theorem mm_weA_80 : ∀ j, j < 40 → (mm_sta (80 + j) = true ∨ Cond.selects (mm_cn (mm_own (80 + j))) (mm_y (80 + j)) (mm_y (80 + j)) ∈ mm_tbl) := by
  intro j hj
  match j, hj with
  | 0, _ => exact Or.inr mm_we80
  | 1, _ => exact Or.inr mm_we81
  | 2, _ => exact Or.inl rfl
  | 3, _ => exact Or.inr mm_we83
  | 4, _ => exact Or.inr mm_we84
  | 5, _ => exact Or.inr mm_we85
  | 6, _ => exact Or.inr mm_we86
  | 7, _ => exact Or.inr mm_we87
  | 8, _ => exact Or.inr mm_we88
  | 9, _ => exact Or.inr mm_we89
  | 10, _ => exact Or.inr mm_we90
  | 11, _ => exact Or.inr mm_we91
  | 12, _ => exact Or.inr mm_we92
  | 13, _ => exact Or.inr mm_we93
  | 14, _ => exact Or.inl rfl
  | 15, _ => exact Or.inl rfl
  | 16, _ => exact Or.inl rfl
  | 17, _ => exact Or.inr mm_we97
  | 18, _ => exact Or.inl rfl
  | 19, _ => exact Or.inr mm_we99
  | 20, _ => exact Or.inr mm_we100
  | 21, _ => exact Or.inr mm_we101
  | 22, _ => exact Or.inr mm_we102
  | 23, _ => exact Or.inr mm_we103
  | 24, _ => exact Or.inr mm_we104
  | 25, _ => exact Or.inr mm_we105
  | 26, _ => exact Or.inr mm_we106
  | 27, _ => exact Or.inr mm_we107
  | 28, _ => exact Or.inr mm_we108
  | 29, _ => exact Or.inr mm_we109
  | 30, _ => exact Or.inr mm_we110
  | 31, _ => exact Or.inr mm_we111
  | 32, _ => exact Or.inr mm_we112
  | 33, _ => exact Or.inr mm_we113
  | 34, _ => exact Or.inr mm_we114
  | 35, _ => exact Or.inr mm_we115
  | 36, _ => exact Or.inr mm_we116
  | 37, _ => exact Or.inr mm_we117
  | 38, _ => exact Or.inr mm_we118
  | 39, _ => exact Or.inr mm_we119
  | n + 40, h => exact absurd h (by omega)
theorem mm_weA_120 : ∀ j, j < 40 → (mm_sta (120 + j) = true ∨ Cond.selects (mm_cn (mm_own (120 + j))) (mm_y (120 + j)) (mm_y (120 + j)) ∈ mm_tbl) := by
  intro j hj
  match j, hj with
  | 0, _ => exact Or.inr mm_we120
  | 1, _ => exact Or.inr mm_we121
  | 2, _ => exact Or.inr mm_we122
  | 3, _ => exact Or.inr mm_we123
  | 4, _ => exact Or.inr mm_we124
  | 5, _ => exact Or.inr mm_we125
  | 6, _ => exact Or.inr mm_we126
  | 7, _ => exact Or.inr mm_we127
  | 8, _ => exact Or.inr mm_we128
  | 9, _ => exact Or.inr mm_we129
  | 10, _ => exact Or.inr mm_we130
  | 11, _ => exact Or.inr mm_we131
  | 12, _ => exact Or.inr mm_we132
  | 13, _ => exact Or.inr mm_we133
  | 14, _ => exact Or.inr mm_we134
  | 15, _ => exact Or.inr mm_we135
  | 16, _ => exact Or.inr mm_we136
  | 17, _ => exact Or.inr mm_we137
  | 18, _ => exact Or.inr mm_we138
  | 19, _ => exact Or.inr mm_we139
  | 20, _ => exact Or.inr mm_we140
  | 21, _ => exact Or.inl rfl
  | 22, _ => exact Or.inr mm_we142
  | 23, _ => exact Or.inr mm_we143
  | 24, _ => exact Or.inr mm_we144
  | 25, _ => exact Or.inr mm_we145
  | 26, _ => exact Or.inr mm_we146
  | 27, _ => exact Or.inr mm_we147
  | 28, _ => exact Or.inr mm_we148
  | 29, _ => exact Or.inr mm_we149
  | 30, _ => exact Or.inr mm_we150
  | 31, _ => exact Or.inr mm_we151
  | 32, _ => exact Or.inr mm_we152
  | 33, _ => exact Or.inr mm_we153
  | 34, _ => exact Or.inr mm_we154
  | 35, _ => exact Or.inr mm_we155
  | 36, _ => exact Or.inr mm_we156
  | 37, _ => exact Or.inr mm_we157
  | 38, _ => exact Or.inr mm_we158
  | 39, _ => exact Or.inr mm_we159
  | n + 40, h => exact absurd h (by omega)
theorem mm_weA_160 : ∀ j, j < 40 → (mm_sta (160 + j) = true ∨ Cond.selects (mm_cn (mm_own (160 + j))) (mm_y (160 + j)) (mm_y (160 + j)) ∈ mm_tbl) := by
  intro j hj
  match j, hj with
  | 0, _ => exact Or.inr mm_we160
  | 1, _ => exact Or.inr mm_we161
  | 2, _ => exact Or.inr mm_we162
  | 3, _ => exact Or.inr mm_we163
  | 4, _ => exact Or.inr mm_we164
  | 5, _ => exact Or.inr mm_we165
  | 6, _ => exact Or.inr mm_we166
  | 7, _ => exact Or.inr mm_we167
  | 8, _ => exact Or.inr mm_we168
  | 9, _ => exact Or.inr mm_we169
  | 10, _ => exact Or.inr mm_we170
  | 11, _ => exact Or.inr mm_we171
  | 12, _ => exact Or.inr mm_we172
  | 13, _ => exact Or.inr mm_we173
  | 14, _ => exact Or.inr mm_we174
  | 15, _ => exact Or.inr mm_we175
  | 16, _ => exact Or.inr mm_we176
  | 17, _ => exact Or.inr mm_we177
  | 18, _ => exact Or.inr mm_we178
  | 19, _ => exact Or.inr mm_we179
  | 20, _ => exact Or.inr mm_we180
  | 21, _ => exact Or.inr mm_we181
  | 22, _ => exact Or.inl rfl
  | 23, _ => exact Or.inl rfl
  | 24, _ => exact Or.inl rfl
  | 25, _ => exact Or.inl rfl
  | 26, _ => exact Or.inl rfl
  | 27, _ => exact Or.inl rfl
  | 28, _ => exact Or.inl rfl
  | 29, _ => exact Or.inr mm_we189
  | 30, _ => exact Or.inr mm_we190
  | 31, _ => exact Or.inr mm_we191
  | 32, _ => exact Or.inr mm_we192
  | 33, _ => exact Or.inr mm_we193
  | 34, _ => exact Or.inr mm_we194
  | 35, _ => exact Or.inr mm_we195
  | 36, _ => exact Or.inr mm_we196
  | 37, _ => exact Or.inr mm_we197
  | 38, _ => exact Or.inr mm_we198
  | 39, _ => exact Or.inr mm_we199
  | n + 40, h => exact absurd h (by omega)
theorem mm_weA_200 : ∀ j, j < 40 → (mm_sta (200 + j) = true ∨ Cond.selects (mm_cn (mm_own (200 + j))) (mm_y (200 + j)) (mm_y (200 + j)) ∈ mm_tbl) := by
  intro j hj
  match j, hj with
  | 0, _ => exact Or.inr mm_we200
  | 1, _ => exact Or.inr mm_we201
  | 2, _ => exact Or.inr mm_we202
  | 3, _ => exact Or.inr mm_we203
  | 4, _ => exact Or.inr mm_we204
  | 5, _ => exact Or.inr mm_we205
  | 6, _ => exact Or.inr mm_we206
  | 7, _ => exact Or.inr mm_we207
  | 8, _ => exact Or.inr mm_we208
  | 9, _ => exact Or.inr mm_we209
  | 10, _ => exact Or.inr mm_we210
  | 11, _ => exact Or.inr mm_we211
  | 12, _ => exact Or.inr mm_we212
  | 13, _ => exact Or.inr mm_we213
  | 14, _ => exact Or.inr mm_we214
  | 15, _ => exact Or.inr mm_we215
  | 16, _ => exact Or.inr mm_we216
  | 17, _ => exact Or.inr mm_we217
  | 18, _ => exact Or.inr mm_we218
  | 19, _ => exact Or.inr mm_we219
  | 20, _ => exact Or.inr mm_we220
  | 21, _ => exact Or.inr mm_we221
  | 22, _ => exact Or.inr mm_we222
  | 23, _ => exact Or.inr mm_we223
  | 24, _ => exact Or.inr mm_we224
  | 25, _ => exact Or.inr mm_we225
  | 26, _ => exact Or.inr mm_we226
  | 27, _ => exact Or.inr mm_we227
  | 28, _ => exact Or.inr mm_we228
  | 29, _ => exact Or.inr mm_we229
  | 30, _ => exact Or.inr mm_we230
  | 31, _ => exact Or.inr mm_we231
  | 32, _ => exact Or.inr mm_we232
  | 33, _ => exact Or.inr mm_we233
  | 34, _ => exact Or.inr mm_we234
  | 35, _ => exact Or.inr mm_we235
  | 36, _ => exact Or.inr mm_we236
  | 37, _ => exact Or.inr mm_we237
  | 38, _ => exact Or.inr mm_we238
  | 39, _ => exact Or.inr mm_we239
  | n + 40, h => exact absurd h (by omega)
theorem mm_weA_240 : ∀ j, j < 40 → (mm_sta (240 + j) = true ∨ Cond.selects (mm_cn (mm_own (240 + j))) (mm_y (240 + j)) (mm_y (240 + j)) ∈ mm_tbl) := by
  intro j hj
  match j, hj with
  | 0, _ => exact Or.inr mm_we240
  | 1, _ => exact Or.inr mm_we241
  | 2, _ => exact Or.inr mm_we242
  | 3, _ => exact Or.inr mm_we243
  | 4, _ => exact Or.inr mm_we244
  | 5, _ => exact Or.inr mm_we245
  | 6, _ => exact Or.inr mm_we246
  | 7, _ => exact Or.inr mm_we247
  | 8, _ => exact Or.inr mm_we248
  | 9, _ => exact Or.inr mm_we249
  | 10, _ => exact Or.inr mm_we250
  | 11, _ => exact Or.inr mm_we251
  | 12, _ => exact Or.inr mm_we252
  | 13, _ => exact Or.inr mm_we253
  | 14, _ => exact Or.inl rfl
  | 15, _ => exact Or.inl rfl
  | 16, _ => exact Or.inl rfl
  | 17, _ => exact Or.inl rfl
  | 18, _ => exact Or.inl rfl
  | 19, _ => exact Or.inl rfl
  | 20, _ => exact Or.inr mm_we260
  | 21, _ => exact Or.inr mm_we261
  | 22, _ => exact Or.inr mm_we262
  | 23, _ => exact Or.inr mm_we263
  | 24, _ => exact Or.inr mm_we264
  | 25, _ => exact Or.inr mm_we265
  | 26, _ => exact Or.inr mm_we266
  | 27, _ => exact Or.inr mm_we267
  | 28, _ => exact Or.inr mm_we268
  | 29, _ => exact Or.inr mm_we269
  | 30, _ => exact Or.inr mm_we270
  | 31, _ => exact Or.inr mm_we271
  | 32, _ => exact Or.inr mm_we272
  | 33, _ => exact Or.inr mm_we273
  | 34, _ => exact Or.inr mm_we274
  | 35, _ => exact Or.inr mm_we275
  | 36, _ => exact Or.inr mm_we276
  | 37, _ => exact Or.inr mm_we277
  | 38, _ => exact Or.inr mm_we278
  | 39, _ => exact Or.inr mm_we279
  | n + 40, h => exact absurd h (by omega)
theorem mm_weA_280 : ∀ j, j < 11 → (mm_sta (280 + j) = true ∨ Cond.selects (mm_cn (mm_own (280 + j))) (mm_y (280 + j)) (mm_y (280 + j)) ∈ mm_tbl) := by
  intro j hj
  match j, hj with
  | 0, _ => exact Or.inr mm_we280
  | 1, _ => exact Or.inr mm_we281
  | 2, _ => exact Or.inr mm_we282
  | 3, _ => exact Or.inr mm_we283
  | 4, _ => exact Or.inr mm_we284
  | 5, _ => exact Or.inr mm_we285
  | 6, _ => exact Or.inl rfl
  | 7, _ => exact Or.inr mm_we287
  | 8, _ => exact Or.inr mm_we288
  | 9, _ => exact Or.inr mm_we289
  | 10, _ => exact Or.inl rfl
  | n + 11, h => exact absurd h (by omega)
theorem mm_weA : ∀ k, k < 291 → (mm_sta k = true ∨ Cond.selects (mm_cn (mm_own k)) (mm_y k) (mm_y k) ∈ mm_tbl) := by
  intro k hk
  by_cases h0 : k < 40
  · have h := mm_weA_0 (k - 0) (by omega)
    rw [show 0 + (k - 0) = k by omega] at h
    exact h
  by_cases h40 : k < 80
  · have h := mm_weA_40 (k - 40) (by omega)
    rw [show 40 + (k - 40) = k by omega] at h
    exact h
  by_cases h80 : k < 120
  · have h := mm_weA_80 (k - 80) (by omega)
    rw [show 80 + (k - 80) = k by omega] at h
    exact h
  by_cases h120 : k < 160
  · have h := mm_weA_120 (k - 120) (by omega)
    rw [show 120 + (k - 120) = k by omega] at h
    exact h
  by_cases h160 : k < 200
  · have h := mm_weA_160 (k - 160) (by omega)
    rw [show 160 + (k - 160) = k by omega] at h
    exact h
  by_cases h200 : k < 240
  · have h := mm_weA_200 (k - 200) (by omega)
    rw [show 200 + (k - 200) = k by omega] at h
    exact h
  by_cases h240 : k < 280
  · have h := mm_weA_240 (k - 240) (by omega)
    rw [show 240 + (k - 240) = k by omega] at h
    exact h
  by_cases h280 : k < 291
  · have h := mm_weA_280 (k - 280) (by omega)
    rw [show 280 + (k - 280) = k by omega] at h
    exact h
  omega
theorem mm_ckA_0 : ∀ j, j < 40 → mm_all (mm_b (0 + j)) (bif (0 + j) == 12 then 20 else 0) (mm_cd (0 + j)) = true := by
  intro j hj
  match j, hj with
  | 0, _ => exact mm_ck0
  | 1, _ => exact mm_ck1
  | 2, _ => exact mm_ck2
  | 3, _ => exact mm_ck3
  | 4, _ => exact mm_ck4
  | 5, _ => exact mm_ck5
  | 6, _ => exact mm_ck6
  | 7, _ => exact mm_ck7
  | 8, _ => exact mm_ck8
  | 9, _ => exact mm_ck9
  | 10, _ => exact mm_ck10
  | 11, _ => exact mm_ck11
  | 12, _ => exact mm_ck12
  | 13, _ => exact mm_ck13
  | 14, _ => exact mm_ck14
  | 15, _ => exact mm_ck15
  | 16, _ => exact mm_ck16
  | 17, _ => exact mm_ck17
  | 18, _ => exact mm_ck18
  | 19, _ => exact mm_ck19
  | 20, _ => exact mm_ck20
  | 21, _ => exact mm_ck21
  | 22, _ => exact mm_ck22
  | 23, _ => exact mm_ck23
  | 24, _ => exact mm_ck24
  | 25, _ => exact mm_ck25
  | 26, _ => exact mm_ck26
  | 27, _ => exact mm_ck27
  | 28, _ => exact mm_ck28
  | 29, _ => exact mm_ck29
  | 30, _ => exact mm_ck30
  | 31, _ => exact mm_ck31
  | 32, _ => exact mm_ck32
  | 33, _ => exact mm_ck33
  | 34, _ => exact mm_ck34
  | 35, _ => exact mm_ck35
  | 36, _ => exact mm_ck36
  | 37, _ => exact mm_ck37
  | 38, _ => exact mm_ck38
  | 39, _ => exact mm_ck39
  | n + 40, h => exact absurd h (by omega)
theorem mm_ckA_40 : ∀ j, j < 40 → mm_all (mm_b (40 + j)) (bif (40 + j) == 12 then 20 else 0) (mm_cd (40 + j)) = true := by
  intro j hj
  match j, hj with
  | 0, _ => exact mm_ck40
  | 1, _ => exact mm_ck41
  | 2, _ => exact mm_ck42
  | 3, _ => exact mm_ck43
  | 4, _ => exact mm_ck44
  | 5, _ => exact mm_ck45
  | 6, _ => exact mm_ck46
  | 7, _ => exact mm_ck47
  | 8, _ => exact mm_ck48
  | 9, _ => exact mm_ck49
  | 10, _ => exact mm_ck50
  | 11, _ => exact mm_ck51
  | 12, _ => exact mm_ck52
  | 13, _ => exact mm_ck53
  | 14, _ => exact mm_ck54
  | 15, _ => exact mm_ck55
  | 16, _ => exact mm_ck56
  | 17, _ => exact mm_ck57
  | 18, _ => exact mm_ck58
  | 19, _ => exact mm_ck59
  | 20, _ => exact mm_ck60
  | 21, _ => exact mm_ck61
  | 22, _ => exact mm_ck62
  | 23, _ => exact mm_ck63
  | 24, _ => exact mm_ck64
  | 25, _ => exact mm_ck65
  | 26, _ => exact mm_ck66
  | 27, _ => exact mm_ck67
  | 28, _ => exact mm_ck68
  | 29, _ => exact mm_ck69
  | 30, _ => exact mm_ck70
  | 31, _ => exact mm_ck71
  | 32, _ => exact mm_ck72
  | 33, _ => exact mm_ck73
  | 34, _ => exact mm_ck74
  | 35, _ => exact mm_ck75
  | 36, _ => exact mm_ck76
  | 37, _ => exact mm_ck77
  | 38, _ => exact mm_ck78
  | 39, _ => exact mm_ck79
  | n + 40, h => exact absurd h (by omega)
theorem mm_ckA_80 : ∀ j, j < 40 → mm_all (mm_b (80 + j)) (bif (80 + j) == 12 then 20 else 0) (mm_cd (80 + j)) = true := by
  intro j hj
  match j, hj with
  | 0, _ => exact mm_ck80
  | 1, _ => exact mm_ck81
  | 2, _ => exact mm_ck82
  | 3, _ => exact mm_ck83
  | 4, _ => exact mm_ck84
  | 5, _ => exact mm_ck85
  | 6, _ => exact mm_ck86
  | 7, _ => exact mm_ck87
  | 8, _ => exact mm_ck88
  | 9, _ => exact mm_ck89
  | 10, _ => exact mm_ck90
  | 11, _ => exact mm_ck91
  | 12, _ => exact mm_ck92
  | 13, _ => exact mm_ck93
  | 14, _ => exact mm_ck94
  | 15, _ => exact mm_ck95
  | 16, _ => exact mm_ck96
  | 17, _ => exact mm_ck97
  | 18, _ => exact mm_ck98
  | 19, _ => exact mm_ck99
  | 20, _ => exact mm_ck100
  | 21, _ => exact mm_ck101
  | 22, _ => exact mm_ck102
  | 23, _ => exact mm_ck103
  | 24, _ => exact mm_ck104
  | 25, _ => exact mm_ck105
  | 26, _ => exact mm_ck106
  | 27, _ => exact mm_ck107
  | 28, _ => exact mm_ck108
  | 29, _ => exact mm_ck109
  | 30, _ => exact mm_ck110
  | 31, _ => exact mm_ck111
  | 32, _ => exact mm_ck112
  | 33, _ => exact mm_ck113
  | 34, _ => exact mm_ck114
  | 35, _ => exact mm_ck115
  | 36, _ => exact mm_ck116
  | 37, _ => exact mm_ck117
  | 38, _ => exact mm_ck118
  | 39, _ => exact mm_ck119
  | n + 40, h => exact absurd h (by omega)
theorem mm_ckA_120 : ∀ j, j < 40 → mm_all (mm_b (120 + j)) (bif (120 + j) == 12 then 20 else 0) (mm_cd (120 + j)) = true := by
  intro j hj
  match j, hj with
  | 0, _ => exact mm_ck120
  | 1, _ => exact mm_ck121
  | 2, _ => exact mm_ck122
  | 3, _ => exact mm_ck123
  | 4, _ => exact mm_ck124
  | 5, _ => exact mm_ck125
  | 6, _ => exact mm_ck126
  | 7, _ => exact mm_ck127
  | 8, _ => exact mm_ck128
  | 9, _ => exact mm_ck129
  | 10, _ => exact mm_ck130
  | 11, _ => exact mm_ck131
  | 12, _ => exact mm_ck132
  | 13, _ => exact mm_ck133
  | 14, _ => exact mm_ck134
  | 15, _ => exact mm_ck135
  | 16, _ => exact mm_ck136
  | 17, _ => exact mm_ck137
  | 18, _ => exact mm_ck138
  | 19, _ => exact mm_ck139
  | 20, _ => exact mm_ck140
  | 21, _ => exact mm_ck141
  | 22, _ => exact mm_ck142
  | 23, _ => exact mm_ck143
  | 24, _ => exact mm_ck144
  | 25, _ => exact mm_ck145
  | 26, _ => exact mm_ck146
  | 27, _ => exact mm_ck147
  | 28, _ => exact mm_ck148
  | 29, _ => exact mm_ck149
  | 30, _ => exact mm_ck150
  | 31, _ => exact mm_ck151
  | 32, _ => exact mm_ck152
  | 33, _ => exact mm_ck153
  | 34, _ => exact mm_ck154
  | 35, _ => exact mm_ck155
  | 36, _ => exact mm_ck156
  | 37, _ => exact mm_ck157
  | 38, _ => exact mm_ck158
  | 39, _ => exact mm_ck159
  | n + 40, h => exact absurd h (by omega)
theorem mm_ckA_160 : ∀ j, j < 40 → mm_all (mm_b (160 + j)) (bif (160 + j) == 12 then 20 else 0) (mm_cd (160 + j)) = true := by
  intro j hj
  match j, hj with
  | 0, _ => exact mm_ck160
  | 1, _ => exact mm_ck161
  | 2, _ => exact mm_ck162
  | 3, _ => exact mm_ck163
  | 4, _ => exact mm_ck164
  | 5, _ => exact mm_ck165
  | 6, _ => exact mm_ck166
  | 7, _ => exact mm_ck167
  | 8, _ => exact mm_ck168
  | 9, _ => exact mm_ck169
  | 10, _ => exact mm_ck170
  | 11, _ => exact mm_ck171
  | 12, _ => exact mm_ck172
  | 13, _ => exact mm_ck173
  | 14, _ => exact mm_ck174
  | 15, _ => exact mm_ck175
  | 16, _ => exact mm_ck176
  | 17, _ => exact mm_ck177
  | 18, _ => exact mm_ck178
  | 19, _ => exact mm_ck179
  | 20, _ => exact mm_ck180
  | 21, _ => exact mm_ck181
  | 22, _ => exact mm_ck182
  | 23, _ => exact mm_ck183
  | 24, _ => exact mm_ck184
  | 25, _ => exact mm_ck185
  | 26, _ => exact mm_ck186
  | 27, _ => exact mm_ck187
  | 28, _ => exact mm_ck188
  | 29, _ => exact mm_ck189
  | 30, _ => exact mm_ck190
  | 31, _ => exact mm_ck191
  | 32, _ => exact mm_ck192
  | 33, _ => exact mm_ck193
  | 34, _ => exact mm_ck194
  | 35, _ => exact mm_ck195
  | 36, _ => exact mm_ck196
  | 37, _ => exact mm_ck197
  | 38, _ => exact mm_ck198
  | 39, _ => exact mm_ck199
  | n + 40, h => exact absurd h (by omega)
theorem mm_ckA_200 : ∀ j, j < 40 → mm_all (mm_b (200 + j)) (bif (200 + j) == 12 then 20 else 0) (mm_cd (200 + j)) = true := by
  intro j hj
  match j, hj with
  | 0, _ => exact mm_ck200
  | 1, _ => exact mm_ck201
  | 2, _ => exact mm_ck202
  | 3, _ => exact mm_ck203
  | 4, _ => exact mm_ck204
  | 5, _ => exact mm_ck205
  | 6, _ => exact mm_ck206
  | 7, _ => exact mm_ck207
  | 8, _ => exact mm_ck208
  | 9, _ => exact mm_ck209
  | 10, _ => exact mm_ck210
  | 11, _ => exact mm_ck211
  | 12, _ => exact mm_ck212
  | 13, _ => exact mm_ck213
  | 14, _ => exact mm_ck214
  | 15, _ => exact mm_ck215
  | 16, _ => exact mm_ck216
  | 17, _ => exact mm_ck217
  | 18, _ => exact mm_ck218
  | 19, _ => exact mm_ck219
  | 20, _ => exact mm_ck220
  | 21, _ => exact mm_ck221
  | 22, _ => exact mm_ck222
  | 23, _ => exact mm_ck223
  | 24, _ => exact mm_ck224
  | 25, _ => exact mm_ck225
  | 26, _ => exact mm_ck226
  | 27, _ => exact mm_ck227
  | 28, _ => exact mm_ck228
  | 29, _ => exact mm_ck229
  | 30, _ => exact mm_ck230
  | 31, _ => exact mm_ck231
  | 32, _ => exact mm_ck232
  | 33, _ => exact mm_ck233
  | 34, _ => exact mm_ck234
  | 35, _ => exact mm_ck235
  | 36, _ => exact mm_ck236
  | 37, _ => exact mm_ck237
  | 38, _ => exact mm_ck238
  | 39, _ => exact mm_ck239
  | n + 40, h => exact absurd h (by omega)
theorem mm_ckA_240 : ∀ j, j < 40 → mm_all (mm_b (240 + j)) (bif (240 + j) == 12 then 20 else 0) (mm_cd (240 + j)) = true := by
  intro j hj
  match j, hj with
  | 0, _ => exact mm_ck240
  | 1, _ => exact mm_ck241
  | 2, _ => exact mm_ck242
  | 3, _ => exact mm_ck243
  | 4, _ => exact mm_ck244
  | 5, _ => exact mm_ck245
  | 6, _ => exact mm_ck246
  | 7, _ => exact mm_ck247
  | 8, _ => exact mm_ck248
  | 9, _ => exact mm_ck249
  | 10, _ => exact mm_ck250
  | 11, _ => exact mm_ck251
  | 12, _ => exact mm_ck252
  | 13, _ => exact mm_ck253
  | 14, _ => exact mm_ck254
  | 15, _ => exact mm_ck255
  | 16, _ => exact mm_ck256
  | 17, _ => exact mm_ck257
  | 18, _ => exact mm_ck258
  | 19, _ => exact mm_ck259
  | 20, _ => exact mm_ck260
  | 21, _ => exact mm_ck261
  | 22, _ => exact mm_ck262
  | 23, _ => exact mm_ck263
  | 24, _ => exact mm_ck264
  | 25, _ => exact mm_ck265
  | 26, _ => exact mm_ck266
  | 27, _ => exact mm_ck267
  | 28, _ => exact mm_ck268
  | 29, _ => exact mm_ck269
  | 30, _ => exact mm_ck270
  | 31, _ => exact mm_ck271
  | 32, _ => exact mm_ck272
  | 33, _ => exact mm_ck273
  | 34, _ => exact mm_ck274
  | 35, _ => exact mm_ck275
  | 36, _ => exact mm_ck276
  | 37, _ => exact mm_ck277
  | 38, _ => exact mm_ck278
  | 39, _ => exact mm_ck279
  | n + 40, h => exact absurd h (by omega)
theorem mm_ckA_280 : ∀ j, j < 11 → mm_all (mm_b (280 + j)) (bif (280 + j) == 12 then 20 else 0) (mm_cd (280 + j)) = true := by
  intro j hj
  match j, hj with
  | 0, _ => exact mm_ck280
  | 1, _ => exact mm_ck281
  | 2, _ => exact mm_ck282
  | 3, _ => exact mm_ck283
  | 4, _ => exact mm_ck284
  | 5, _ => exact mm_ck285
  | 6, _ => exact mm_ck286
  | 7, _ => exact mm_ck287
  | 8, _ => exact mm_ck288
  | 9, _ => exact mm_ck289
  | 10, _ => exact mm_ck290
  | n + 11, h => exact absurd h (by omega)
theorem mm_ckA : ∀ k, k < 291 → mm_all (mm_b k) (bif k == 12 then 20 else 0) (mm_cd k) = true := by
  intro k hk
  by_cases h0 : k < 40
  · have h := mm_ckA_0 (k - 0) (by omega)
    rw [show 0 + (k - 0) = k by omega] at h
    exact h
  by_cases h40 : k < 80
  · have h := mm_ckA_40 (k - 40) (by omega)
    rw [show 40 + (k - 40) = k by omega] at h
    exact h
  by_cases h80 : k < 120
  · have h := mm_ckA_80 (k - 80) (by omega)
    rw [show 80 + (k - 80) = k by omega] at h
    exact h
  by_cases h120 : k < 160
  · have h := mm_ckA_120 (k - 120) (by omega)
    rw [show 120 + (k - 120) = k by omega] at h
    exact h
  by_cases h160 : k < 200
  · have h := mm_ckA_160 (k - 160) (by omega)
    rw [show 160 + (k - 160) = k by omega] at h
    exact h
  by_cases h200 : k < 240
  · have h := mm_ckA_200 (k - 200) (by omega)
    rw [show 200 + (k - 200) = k by omega] at h
    exact h
  by_cases h240 : k < 280
  · have h := mm_ckA_240 (k - 240) (by omega)
    rw [show 240 + (k - 240) = k by omega] at h
    exact h
  by_cases h280 : k < 291
  · have h := mm_ckA_280 (k - 280) (by omega)
    rw [show 280 + (k - 280) = k by omega] at h
    exact h
  omega
theorem mm_ini : ∀ o, o < 16 → Cond.initialized (mm_cn o) ∈ mm_tbl := by
  intro o ho
  match o, ho with
  | 0, _ => exact mm_tb (j := 1) (by decide +kernel)
  | 1, _ => exact mm_tb (j := 2) (by decide +kernel)
  | 2, _ => exact mm_tb (j := 3) (by decide +kernel)
  | 3, _ => exact mm_tb (j := 4) (by decide +kernel)
  | 4, _ => exact mm_tb (j := 5) (by decide +kernel)
  | 5, _ => exact mm_tb (j := 6) (by decide +kernel)
  | 6, _ => exact mm_tb (j := 7) (by decide +kernel)
  | 7, _ => exact mm_tb (j := 8) (by decide +kernel)
  | 8, _ => exact mm_tb (j := 9) (by decide +kernel)
  | 9, _ => exact mm_tb (j := 10) (by decide +kernel)
  | 10, _ => exact mm_tb (j := 11) (by decide +kernel)
  | 11, _ => exact mm_tb (j := 12) (by decide +kernel)
  | 12, _ => exact mm_tb (j := 13) (by decide +kernel)
  | 13, _ => exact mm_tb (j := 0) (by decide +kernel)
  | 14, _ => exact mm_tb (j := 22) (by decide +kernel)
  | 15, _ => exact mm_tb (j := 23) (by decide +kernel)
  | n + 16, h => exact absurd h (by omega)
def mm_mok (m : mm_Mt) : Bool := decide (m.1 < 16) && decide (m.2.1.cls = mm_cn m.1) && decide ((parseMethodDescriptor m.2.1.desc).map (fun d => d.parameters.length) = some m.2.2.2.2.2.1) && decide (m.2.2.2.1 ≤ 20) && plainName m.2.1.cls && decide (m.2.1.cls ≠ "java/lang/invoke/MethodHandle") && decide (m.2.1.cls ≠ "java/lang/invoke/VarHandle")
theorem mm_mt_ok : mm_mt.all mm_mok = true := by decide +kernel
def mm_cl0 : List (Nat × Nat × Nat × Nat) := [(251, 97, 2, 527), (101, 39, 2, 635), (128, 26, 0, 706), (131, 40, 2, 710), (134, 49, 2, 714), (135, 117, 2, 718), (139, 79, 2, 755), (142, 75, 2, 854), (145, 76, 2, 868), (148, 107, 2, 885), (151, 108, 2, 920), (154, 118, 2, 924), (157, 121, 2, 940), (290, 33, 0, 955), (294, 32, 0, 958), (160, 124, 2, 978), (163, 137, 2, 992), (166, 159, 2, 1052), (192, 55, 2, 1143), (193, 127, 2, 1151), (196, 91, 2, 1168), (199, 89, 2, 1218), (202, 90, 2, 1229), (205, 112, 2, 1237), (208, 113, 2, 1257), (211, 129, 2, 1261), (214, 133, 2, 1282), (217, 135, 2, 1292), (220, 147, 2, 1300), (223, 171, 2, 1367), (232, 50, 2, 1383), (236, 28, 0, 1395), (240, 29, 0, 1396), (243, 30, 0, 1397), (246, 31, 0, 1398), (257, 35, 2, 1408), (301, 290, 0, 1412), (260, 36, 2, 1413), (306, 37, 2, 1417), (263, 38, 2, 1421), (269, 66, 2, 1433)]
def mm_cl1 : List (Nat × Nat × Nat × Nat) := [(44, 45, 2, 769), (48, 44, 2, 783)]
def mm_cl2 : List (Nat × Nat × Nat × Nat) := [(47, 51, 2, 790), (51, 27, 1, 848), (61, 54, 2, 850)]
def mm_cl3 : List (Nat × Nat × Nat × Nat) := [(22, 56, 2, 1147), (36, 57, 2, 1167), (41, 61, 2, 1176)]
def mm_cl4 : List (Nat × Nat × Nat × Nat) := [(37, 67, 2, 1322), (41, 68, 2, 1326), (47, 69, 2, 1330)]
def mm_cl5 : List (Nat × Nat × Nat × Nat) := [(36, 290, 0, 1184), (54, 72, 2, 1190), (58, 73, 2, 1194), (62, 74, 2, 1198)]
def mm_cl6 : List (Nat × Nat × Nat × Nat) := [(144, 290, 0, 534), (137, 82, 0, 537), (244, 98, 0, 540), (211, 94, 0, 543), (217, 95, 0, 546), (235, 34, 1, 549), (232, 96, 0, 552), (104, 45, 2, 760), (107, 46, 2, 765), (61, 27, 1, 770), (113, 80, 2, 775), (88, 47, 2, 779), (55, 44, 2, 785), (131, 52, 2, 786), (116, 81, 2, 791), (141, 99, 2, 795), (119, 83, 2, 802), (156, 102, 2, 806), (122, 84, 2, 810), (160, 103, 2, 814), (125, 85, 2, 823), (170, 101, 2, 828), (128, 86, 2, 832), (173, 87, 2, 836), (176, 88, 2, 840), (179, 53, 2, 844), (65, 79, 2, 858), (68, 48, 2, 859), (81, 30, 1, 863), (85, 77, 2, 872), (91, 78, 2, 876), (98, 28, 1, 880), (197, 62, 2, 1172), (199, 70, 2, 1180), (204, 71, 2, 1185), (214, 92, 2, 1202), (229, 63, 2, 1206), (223, 93, 2, 1210), (226, 64, 2, 1214), (183, 57, 2, 1222), (188, 91, 2, 1223), (192, 60, 2, 1224), (195, 59, 2, 1233)]
def mm_cl7 : List (Nat × Nat × Nat × Nat) := [(28, 290, 0, 800), (42, 27, 1, 818), (48, 45, 2, 819)]
def mm_cl8 : List (Nat × Nat × Nat × Nat) := [(63, 44, 2, 889), (69, 27, 1, 890), (73, 104, 2, 891), (46, 105, 2, 895), (49, 34, 1, 899), (77, 109, 2, 900), (84, 46, 2, 905), (88, 110, 2, 906), (91, 111, 2, 910), (109, 51, 2, 914), (112, 54, 2, 915), (95, 106, 2, 916), (115, 57, 2, 1241), (118, 114, 2, 1242), (122, 290, 0, 1246), (128, 62, 2, 1247), (135, 115, 2, 1248), (139, 116, 2, 1252), (142, 64, 2, 1256)]
def mm_cl9 : List (Nat × Nat × Nat × Nat) := [(28, 43, 2, 723), (34, 44, 2, 727), (38, 51, 2, 747), (44, 119, 2, 928), (60, 27, 1, 932), (48, 120, 2, 933), (68, 52, 2, 937), (52, 47, 2, 938), (64, 53, 2, 939), (70, 122, 2, 944), (84, 31, 1, 948), (74, 123, 2, 964), (101, 41, 2, 969), (104, 118, 2, 973), (107, 42, 2, 974), (110, 125, 2, 982), (115, 126, 2, 988), (121, 128, 2, 1155), (125, 57, 2, 1159), (128, 58, 2, 1163), (132, 70, 2, 1265), (137, 71, 2, 1266), (148, 130, 2, 1268), (152, 131, 2, 1273), (163, 132, 2, 1277), (160, 59, 2, 1281), (167, 134, 2, 1286), (171, 129, 2, 1290), (174, 56, 2, 1291), (177, 136, 2, 1296)]
def mm_cl10 : List (Nat × Nat × Nat × Nat) := [(55, 44, 2, 996), (61, 27, 1, 997), (70, 46, 2, 999), (84, 138, 2, 1002), (105, 45, 2, 1006), (111, 139, 2, 1007), (114, 140, 2, 1011), (131, 141, 0, 1015), (117, 142, 2, 1018), (138, 99, 2, 1022), (141, 100, 2, 1023), (121, 143, 2, 1027), (145, 103, 2, 1031), (151, 144, 2, 1033), (90, 145, 2, 1037), (155, 290, 0, 1041), (93, 146, 2, 1042), (160, 51, 2, 1046), (97, 29, 1, 1047), (101, 32, 1, 1051), (166, 57, 2, 1304), (169, 148, 2, 1305), (184, 149, 2, 1309), (172, 150, 2, 1313), (188, 66, 2, 1317), (193, 151, 2, 1335), (205, 154, 2, 1339), (212, 153, 2, 1343), (208, 152, 2, 1347), (175, 155, 2, 1351), (178, 62, 2, 1355), (215, 61, 2, 1356), (217, 156, 2, 1357), (222, 157, 2, 1361), (181, 64, 2, 1366)]
def mm_cl11 : List (Nat × Nat × Nat × Nat) := [(55, 160, 2, 1056), (61, 44, 2, 1060), (67, 27, 1, 1061), (110, 47, 2, 1062), (58, 158, 2, 1065), (27, 290, 0, 1069), (71, 48, 2, 1071), (89, 161, 2, 1072), (93, 165, 2, 1079), (128, 52, 2, 1083), (96, 166, 2, 1084), (131, 169, 2, 1088), (147, 163, 2, 1092), (135, 170, 2, 1096), (155, 164, 2, 1102), (158, 162, 2, 1106), (140, 53, 2, 1111), (100, 167, 2, 1112), (144, 168, 2, 1116), (161, 57, 2, 1371), (168, 59, 2, 1373), (174, 172, 2, 1374), (181, 65, 2, 1378), (179, 60, 2, 1382)]
def mm_cl12 : List (Nat × Nat × Nat × Nat) := [(94, 174, 2, 1633), (141, 182, 0, 1665), (145, 183, 0, 1669), (148, 184, 0, 1673), (151, 188, 0, 1678), (132, 186, 0, 1685), (136, 187, 0, 1688), (124, 185, 0, 1691), (382, 214, 2, 1702), (164, 191, 2, 1706), (161, 190, 2, 1710), (168, 194, 2, 1714), (242, 203, 2, 1718), (190, 198, 2, 1722), (181, 197, 2, 1726), (194, 204, 2, 1730), (207, 193, 2, 1734), (211, 195, 2, 1739), (197, 205, 2, 1743), (221, 199, 2, 1747), (200, 206, 2, 1751), (225, 201, 2, 1755), (184, 200, 2, 1759), (229, 207, 2, 1764), (232, 202, 2, 1768), (203, 208, 2, 1772), (235, 209, 2, 1776), (238, 196, 2, 1780), (385, 210, 2, 1784), (388, 212, 2, 1788), (245, 192, 2, 1792), (248, 211, 2, 1796), (251, 213, 2, 1800), (391, 216, 2, 1804), (254, 215, 2, 1808), (268, 218, 2, 1812), (258, 217, 2, 1816), (394, 219, 2, 1820), (262, 220, 2, 1824), (397, 221, 2, 1829), (276, 222, 2, 1835), (400, 223, 2, 1840), (286, 224, 2, 1846), (289, 225, 2, 1850), (298, 226, 2, 1854), (301, 227, 2, 1858), (304, 228, 2, 1862), (313, 229, 2, 1866), (316, 230, 2, 1870), (310, 231, 2, 1874), (403, 237, 2, 1878), (352, 238, 2, 1883), (333, 233, 2, 1887), (330, 232, 2, 1892), (356, 241, 2, 1897), (359, 242, 2, 1901), (373, 234, 2, 1905), (362, 240, 2, 1909), (365, 243, 2, 1913), (376, 235, 2, 1918), (379, 236, 2, 1922), (370, 239, 2, 1927), (498, 273, 2, 1935), (495, 271, 2, 1939), (487, 272, 2, 1943), (491, 270, 2, 1947), (533, 252, 2, 1955), (430, 251, 2, 1959), (409, 245, 2, 1963), (536, 285, 2, 1967), (554, 260, 2, 1971), (433, 249, 2, 1975), (421, 247, 2, 1979), (418, 248, 2, 1983), (443, 250, 2, 1987), (447, 253, 2, 1991), (450, 254, 0, 1995), (437, 255, 0, 1998), (453, 258, 0, 2001), (456, 257, 0, 2004), (440, 256, 0, 2007), (459, 259, 0, 2010), (469, 246, 2, 2013), (539, 261, 2, 2017), (462, 262, 2, 2021), (476, 265, 2, 2025), (473, 264, 2, 2029), (466, 263, 2, 2033), (542, 266, 2, 2037), (481, 267, 2, 2042), (545, 269, 2, 2046), (484, 268, 2, 2050), (548, 276, 2, 2054), (501, 275, 2, 2058), (504, 277, 2, 2062), (507, 280, 2, 2066), (516, 279, 2, 2070), (513, 278, 2, 2074), (551, 283, 2, 2078), (530, 282, 2, 2083), (525, 281, 2, 2087), (557, 286, 0, 2095), (560, 288, 2, 2102)]
def mm_cl13 : List (Nat × Nat × Nat × Nat) := [(97, 22, 2, 523), (60, 0, 0, 558), (7, 13, 2, 562), (69, 1, 0, 639), (15, 14, 2, 643), (73, 2, 0, 663), (21, 15, 2, 667), (77, 3, 0, 687), (27, 16, 2, 690), (81, 4, 0, 698), (31, 17, 2, 701), (85, 5, 0, 1120), (35, 18, 2, 1123), (88, 6, 0, 1128), (38, 19, 2, 1131), (91, 7, 0, 1136), (41, 20, 2, 1139), (94, 8, 0, 1388), (44, 21, 2, 1391), (101, 9, 0, 1400), (47, 23, 2, 1403), (104, 10, 0, 1425), (50, 24, 2, 1428), (107, 11, 0, 1434), (53, 25, 2, 1437), (66, 173, 2, 1625), (65, 175, 2, 1629), (72, 176, 2, 1637), (76, 177, 2, 1641), (80, 178, 2, 1645), (109, 179, 2, 1649), (90, 180, 2, 1653), (87, 181, 2, 1657), (96, 189, 2, 1661), (84, 244, 2, 1697), (106, 274, 2, 1931), (93, 284, 2, 1951), (100, 287, 2, 2091), (103, 289, 2, 2098)]
def mm_cl14 : List (Nat × Nat × Nat × Nat) := []
def mm_cl15 : List (Nat × Nat × Nat × Nat) := []
def mm_clA (o : Nat) : List (Nat × Nat × Nat × Nat) := (mm_nth [mm_cl0, mm_cl1, mm_cl2, mm_cl3, mm_cl4, mm_cl5, mm_cl6, mm_cl7, mm_cl8, mm_cl9, mm_cl10, mm_cl11, mm_cl12, mm_cl13, mm_cl14, mm_cl15] o).getD []
def mm_clw (o : Nat) (e : Nat × Nat × Nat × Nat) : Cond := bif e.2.2.1 == 1 then .methodLinkNest (mm_cn o) e.1 (mm_y e.2.1) "PlainPacks" else .methodLink (mm_cn o) e.1 (mm_y e.2.1)
theorem mm_wk_clw (o : Nat) (e : Nat × Nat × Nat × Nat) : mm_wk (mm_clw o e) = true := by unfold mm_clw; cases (e.2.2.1 == 1) <;> rfl
def mm_clok (o : Nat) (e : Nat × Nat × Nat × Nat) : Bool := decide (tables_1[e.2.2.2]? = some (mm_clw o e)) && decide (e.2.1 < 291) && !(e.2.1 == 12) && (mm_sta e.2.1 == !(e.2.2.1 == 2))
theorem mm_clk0 : mm_cl0.all (mm_clok 0) = true := by decide +kernel
theorem mm_clk1 : mm_cl1.all (mm_clok 1) = true := by decide +kernel
theorem mm_clk2 : mm_cl2.all (mm_clok 2) = true := by decide +kernel
theorem mm_clk3 : mm_cl3.all (mm_clok 3) = true := by decide +kernel
theorem mm_clk4 : mm_cl4.all (mm_clok 4) = true := by decide +kernel
theorem mm_clk5 : mm_cl5.all (mm_clok 5) = true := by decide +kernel
theorem mm_clk6 : mm_cl6.all (mm_clok 6) = true := by decide +kernel
theorem mm_clk7 : mm_cl7.all (mm_clok 7) = true := by decide +kernel
theorem mm_clk8 : mm_cl8.all (mm_clok 8) = true := by decide +kernel
theorem mm_clk9 : mm_cl9.all (mm_clok 9) = true := by decide +kernel
theorem mm_clk10 : mm_cl10.all (mm_clok 10) = true := by decide +kernel
theorem mm_clk11 : mm_cl11.all (mm_clok 11) = true := by decide +kernel
theorem mm_clk12 : mm_cl12.all (mm_clok 12) = true := by decide +kernel
theorem mm_clk13 : mm_cl13.all (mm_clok 13) = true := by decide +kernel
theorem mm_clk14 : mm_cl14.all (mm_clok 14) = true := by decide +kernel
theorem mm_clk15 : mm_cl15.all (mm_clok 15) = true := by decide +kernel
theorem mm_clk : ∀ o, (mm_clA o).all (mm_clok o) = true := by
  intro o
  match o with
  | 0 => exact mm_clk0
  | 1 => exact mm_clk1
  | 2 => exact mm_clk2
  | 3 => exact mm_clk3
  | 4 => exact mm_clk4
  | 5 => exact mm_clk5
  | 6 => exact mm_clk6
  | 7 => exact mm_clk7
  | 8 => exact mm_clk8
  | 9 => exact mm_clk9
  | 10 => exact mm_clk10
  | 11 => exact mm_clk11
  | 12 => exact mm_clk12
  | 13 => exact mm_clk13
  | 14 => exact mm_clk14
  | 15 => exact mm_clk15
  | n + 16 => rfl
/-- a call site: the method, how it is called (0: static, 1: static in the nest, 2: on an object) -/
def mm_call (o idx : Nat) : Option (Nat × Nat) := (mm_look (mm_clA o) idx).map (fun e => (e.1, e.2.1))
theorem mm_call_ok {o idx k q : Nat} (h : mm_call o idx = some (k, q)) : (bif q == 1 then Cond.methodLinkNest (mm_cn o) idx (mm_y k) "PlainPacks" else Cond.methodLink (mm_cn o) idx (mm_y k)) ∈ mm_tbl ∧ k < 291 ∧ k ≠ 12 ∧ mm_sta k = !(q == 2) := by
  unfold mm_call at h
  cases h1 : mm_look (mm_clA o) idx with
  | none => rw [h1] at h; cases h
  | some e =>
    rw [h1] at h
    cases h
    have h2 := List.all_eq_true.mp (mm_clk o) _ (mm_look_mem _ _ _ h1)
    simp only [mm_clok, Bool.and_eq_true, decide_eq_true_eq, Bool.not_eq_true', beq_iff_eq, beq_eq_false_iff_ne] at h2
    exact ⟨mm_tb h2.1.1.1 (mm_wk_clw o (idx, e)), h2.1.1.2, h2.1.2, h2.2⟩
def mm_intL : List (Nat × Nat × Nat × Nat) := [(6, 238, 0, 531), (6, 247, 1, 555), (0, 122, 2, 695), (7, 22, 0, 799), (6, 164, 2, 827), (2, 55, 1, 849), (11, 150, 0, 1100), (5, 48, 0, 1189), (9, 155, 0, 1272), (4, 27, 0, 1321), (4, 51, 2, 1334), (2, 34, 2, 1387)]
def mm_int (o idx : Nat) : Option Nat := (mm_intL.find? (fun e => e.1 == o && e.2.1 == idx)).map (fun e => e.2.2.1)
def mm_intw (e : Nat × Nat × Nat × Nat) : Cond := .methodLink (mm_cn e.1) e.2.1 (bif e.2.2.1 == 0 then ⟨"java/lang/Math", "min", "(II)I"⟩ else bif e.2.2.1 == 1 then ⟨"java/lang/Math", "max", "(II)I"⟩ else arraycopyName)
theorem mm_intk : mm_intL.all (fun e => decide (tables_1[e.2.2.2]? = some (mm_intw e))) = true := by decide +kernel
theorem mm_int_ok {o idx q : Nat} (h : mm_int o idx = some q) : Cond.methodLink (mm_cn o) idx (bif q == 0 then ⟨"java/lang/Math", "min", "(II)I"⟩ else bif q == 1 then ⟨"java/lang/Math", "max", "(II)I"⟩ else arraycopyName) ∈ mm_tbl := by
  unfold mm_int at h
  cases h1 : mm_intL.find? (fun e => e.1 == o && e.2.1 == idx) with
  | none => rw [h1] at h; cases h
  | some e =>
    rw [h1] at h
    cases h
    have h3 := List.find?_some h1
    simp only [Bool.and_eq_true, beq_iff_eq] at h3
    have h2 := List.all_eq_true.mp mm_intk _ (List.mem_of_find?_eq_some h1)
    simp only [decide_eq_true_eq, mm_intw, h3.1, h3.2] at h2
    exact mm_tb h2
theorem mm_wmin : Cond.code ⟨"java/lang/Math", "min", "(II)I"⟩ prog_19_method_69_code 2 (some .int) ∈ mm_tbl := mm_tb3 (j := 53) rfl
theorem mm_wmins : Cond.static ⟨"java/lang/Math", "min", "(II)I"⟩ ∈ mm_tbl := mm_tb (j := 532) (by decide +kernel)
theorem mm_wmax : Cond.code ⟨"java/lang/Math", "max", "(II)I"⟩ prog_19_method_65_code 2 (some .int) ∈ mm_tbl := mm_tb3 (j := 77) rfl
theorem mm_wmaxs : Cond.static ⟨"java/lang/Math", "max", "(II)I"⟩ ∈ mm_tbl := mm_tb (j := 556) (by decide +kernel)
theorem mm_wcpn : Cond.native arraycopyName ∈ mm_tbl := mm_tb (j := 697) (by decide +kernel)
theorem mm_wcps : Cond.static arraycopyName ∈ mm_tbl := mm_tb (j := 696) (by decide +kernel)
theorem mm_wsys : Cond.initialized "java/lang/System" ∈ mm_tbl := mm_tb (j := 20) (by decide +kernel)
theorem mm_wmth : Cond.initialized "java/lang/Math" ∈ mm_tbl := mm_tb (j := 22) (by decide +kernel)
def mm_en (e : Nat) : String := (mm_nth ["java/lang/IllegalStateException", "java/lang/IllegalArgumentException", "java/lang/IndexOutOfBoundsException", "java/lang/UnsupportedOperationException"] e).getD ""
/-- the throws: method, pc, kind; class, text and constructor in the pool -/
def mm_thL : List (Nat × Nat × Nat × Nat × Nat × Nat × Nat × String) := [(13, 16, 3, 94, 96, 98, 0, "the tape has no room for twenty bytes"), (14, 15, 1, 105, 107, 109, 0, "the tape has not so many bytes"), (15, 15, 2, 110, 112, 114, 0, "no such byte of the tape"), (16, 13, 3, 94, 119, 98, 0, "the output is too long for a tape"), (18, 88, 2, 110, 188, 114, 0, "nothing such is told"), (19, 15, 2, 110, 190, 114, 0, "no such byte of the output"), (21, 108, 1, 105, 249, 109, 0, "no such kind of sum"), (23, 11, 1, 105, 255, 109, 0, "not a byte"), (24, 15, 2, 110, 267, 114, 1, "no such turning"), (25, 44, 2, 110, 275, 114, 1, "nothing such is counted"), (26, 10, 1, 105, 277, 109, 1, "no such form"), (27, 4, 0, 169, 279, 281, 1, "wrong"), (44, 11, 0, 35, 37, 39, 0, "a byte is wanted behind the last one"), (45, 18, 0, 35, 42, 39, 0, "a bit is wanted behind the last byte"), (51, 10, 0, 40, 42, 44, 0, "the output is full"), (103, 128, 0, 54, 56, 58, 0, "no code begins so")]
def mm_thr (k pc : Nat) : Option (Nat × Nat × Nat × Nat × Nat × Nat × Nat × String) := mm_thL.find? (fun e => e.1 == k && e.2.1 == pc)
def mm_tho (e : Nat × Nat × Nat × Nat × Nat × Nat × Nat × String) : Bool := decide (decode (mm_b e.1) e.2.1 = .ok (Instr.new e.2.2.2.1, 3)) && decide (decode (mm_b e.1) (e.2.1 + 3) = .ok (Instr.dup, 1)) && decide (decode (mm_b e.1) (e.2.1 + 4) = .ok ((bif e.2.2.2.2.2.2.1 == 0 then Instr.ldc e.2.2.2.2.1 else Instr.ldc_w e.2.2.2.2.1), 2 + e.2.2.2.2.2.2.1)) && decide (decode (mm_b e.1) (e.2.1 + 6 + e.2.2.2.2.2.2.1) = .ok (Instr.invokespecial e.2.2.2.2.2.1, 3)) && decide (decode (mm_b e.1) (e.2.1 + 9 + e.2.2.2.2.2.2.1) = .ok (Instr.athrow, 1)) && decide (e.2.2.2.2.2.2.1 < 2) && decide (e.2.2.1 < 4) && decide (mm_hs e.1 = [])
theorem mm_thk : mm_thL.all mm_tho = true := by decide +kernel
def mm_thP : List (Nat × Nat × Nat) := [(566, 608, 609), (647, 656, 657), (671, 680, 681), (566, 694, 609), (671, 1127, 681), (671, 1135, 681), (647, 1399, 657), (647, 1407, 657), (671, 1432, 681), (671, 1441, 681), (647, 709, 657), (705, 773, 774), (731, 740, 741), (731, 764, 741), (751, 752, 753), (820, 821, 822)]
theorem mm_thw : (mm_thL.zip mm_thP).all (fun q => decide (tables_1[q.2.1]? = some (.classLink (mm_cn (mm_own q.1.1)) q.1.2.2.2.1 (mm_en q.1.2.2.1))) && decide (tables_1[q.2.2.1]? = some (.stringRef (mm_cn (mm_own q.1.1)) q.1.2.2.2.2.1 q.1.2.2.2.2.2.2.2)) && decide (tables_1[q.2.2.2]? = some (.methodLink (mm_cn (mm_own q.1.1)) q.1.2.2.2.2.2.1 ⟨mm_en q.1.2.2.1, "<init>", "(Ljava/lang/String;)V"⟩))) = true := by decide +kernel
