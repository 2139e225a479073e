/-! The memory of class, reference and law as numbers: an int variable is a row of ints, a field its place 0. -/
abbrev Mem : Type := (Nat → Nat → Int32) × (Nat → Nat → Int64) × Nat × Nat
abbrev Gx : Type := (Nat → ClassId) × (Nat → Nat → Nat) × (Nat → Nat) × (Nat → ClassId) × (Nat → Nat) × (Nat → Nat)
abbrev gD (G : Gx) : va_G := (G.1, G.2.1)
abbrev gA (G : Gx) : Nat → Nat := G.2.2.1
abbrev gC (G : Gx) : Nat → ClassId := G.2.2.2.1
abbrev gK (G : Gx) : Nat → Nat := G.2.2.2.2.1
abbrev gV (G : Gx) : Nat → Nat := G.2.2.2.2.2
def setI (μ : Mem) (v i : Nat) (x : Int32) : Mem := (fun u => if u = v then upd (μ.1 u) i x else μ.1 u, μ.2)
def setL (μ : Mem) (v i : Nat) (x : Int64) : Mem := (μ.1, fun u => if u = v then vp_updL (μ.2.1 u) i x else μ.2.1 u, μ.2.2)
def setA (μ : Mem) (v : Nat) (f : Nat → Int32) : Mem := (fun u => if u = v then f else μ.1 u, μ.2)
def addC (μ : Mem) (n z : Nat) : Mem := (μ.1, μ.2.1, μ.2.2.1 + n, μ.2.2.2 + z)
abbrev v_x_text : Nat := 0
abbrev v_x_signs : Nat := 1
abbrev v_x_isKept : Nat := 2
abbrev v_x_rules : Nat := 3
abbrev v_row_size : Nat := 4
abbrev v_sr_text : Nat := 71
abbrev v_sr_length : Nat := 72
abbrev v_sr_limit : Nat := 73
abbrev v_sr_at : Nat := 74
abbrev v_sr_there : Nat := 75
abbrev v_sr_telling : Nat := 76
abbrev v_rr_spare : Nat := 77
abbrev v_rr_text : Nat := 78
abbrev v_rr_limit : Nat := 79
abbrev v_rr_at : Nat := 80
abbrev v_me_cellsLen : Nat := 105
abbrev v_me_cells : Nat := 106
abbrev v_me_size : Nat := 107
abbrev v_me_stamp : Nat := 108
abbrev v_or_till : Nat := 109
abbrev v_or_period : Nat := 110
abbrev v_or_entry : Nat := 111
abbrev v_or_least : Nat := 112
abbrev v_or_always : Nat := 113
abbrev v_or_ever : Nat := 114
abbrev v_ta_wanted : Nat := 115
abbrev v_ta_sum : Nat := 116
abbrev v_ta_soonest : Nat := 117
abbrev v_sh_paid : Nat := 132
abbrev v_m_people : Nat := 133
abbrev v_m_need : Nat := 134
abbrev v_m_price : Nat := 135
abbrev v_m_firm : Nat := 136
abbrev v_m_loud : Nat := 137
abbrev v_m_states : Nat := 138
abbrev v_m_days : Nat := 139
abbrev v_m_text : Nat := 140
abbrev v_m_typed : Nat := 141
abbrev v_m_rowMany : Nat := 142
abbrev v_m_thrown : Nat := 143
abbrev v_m_read : Nat := 144
abbrev v_m_size : Nat := 145
abbrev v_m_top : Nat := 146
abbrev v_m_at : Nat := 147
abbrev v_m_wrong : Nat := 148
abbrev v_m_line : Nat := 149
abbrev v_m_cameOn : Nat := 150
abbrev v_m_cameIn : Nat := 151
abbrev v_m_question : Nat := 152
abbrev v_m_restIn : Nat := 153
abbrev v_m_restRound : Nat := 154
abbrev v_m_restState : Nat := 155
abbrev v_m_needWas : Nat := 156
abbrev v_m_far : Nat := 157
abbrev v_m_isLast : Nat := 158
abbrev v_m_sums : Nat := 159
abbrev v_m_sumsIn : Nat := 160
abbrev v_m_rules0 : Nat := 161
abbrev v_m_rules1 : Nat := 162
abbrev v_m_ruleSize : Nat := 163
abbrev v_m_askedShop : Nat := 164
abbrev v_m_askedOne : Nat := 165
abbrev v_m_askedState : Nat := 166
abbrev v_m_loudWas : Nat := 167
abbrev v_m_peopleTold : Nat := 168
abbrev v_m_kept : Nat := 169
abbrev v_m_isKept : Nat := 170
abbrev v_m_keptTold : Nat := 171
abbrev l_row_numbers : Nat := 0
abbrev l_m_row : Nat := 9
abbrev l_out : Nat := 10
abbrev vSt (t j : Nat) : Nat := 5 + 22 * t + j
abbrev vRu (t j : Nat) : Nat := 81 + 4 * t + j
abbrev vHe (t j : Nat) : Nat := 93 + 6 * t + j
abbrev vFa (i : Nat) : Nat := 118 + i
abbrev lHe (t j : Nat) : Nat := 1 + 4 * t + j
def mRd (ad : Nat → Nat) (x : Int32) : Value := if x = 1 then .ref (ad 116) else if x = 2 then .ref (ad 127) else if x = 3 then .ref (ad 128) else .null
abbrev cls : List vw_C := [(RX0, TX0, 3), (RX1, TX1, 10), (RX2, TX2, 3), (RX3, TX3, 10), (RX4, TX4, 2), (RX5, TX5, 4), (RX6, TX6, 5), (RX7, TX7, 7), (RX8, TX8, 9), (RX9, TX9, 7), (RX10, TX10, 7), (RX11, TX11, 15), (RX12, TX12, 39)]
def tysOf (G : Gx) : List (ClassId × FieldType) := [(gC G 0, .int), (gC G 1, .byte), (gC G 2, .boolean), (gC G 3, .long), (gC G 4, .object "MoreThanHalf$Rule"), (gC G 5, .object "MoreThanHalf$Street"), (gC G 6, .array .int), (gC G 7, .array .byte)]
def wsOf (G : Gx) (μ : Mem) (dy : Nat → Nat) : va_W := [
  (gA G 0, .inr (11, [.ref (gA G 1), .int (μ.1 v_x_signs 0), .ref (gA G 2), .ref (gA G 4), .ref (gA G 64), .ref (gA G 65), .ref (gA G 66), .ref (gA G 76), .ref (gA G 78), .ref (gA G 80), .ref (gA G 90), .ref (gA G 91), .ref (gA G 92), .ref (gA G 93), .ref (gA G 110)])),
  (gA G 1, .inl (gC G 0, 80, .inl (μ.1 v_x_text))),
  (gA G 2, .inr (4, [.ref (gA G 3), .int (μ.1 v_row_size 0)])),
  (gA G 3, .inl (gC G 3, 16, .inr (.inl (μ.2.1 l_row_numbers)))),
  (gA G 4, .inr (8, [.ref (gA G 5), .ref (gA G 6), .ref (gA G 7), .ref (gA G 22), .ref (gA G 23), .int (μ.1 (vSt 0 0) 0), .int (μ.1 (vSt 0 1) 0), .int (μ.1 (vSt 0 2) 0), .int (μ.1 (vSt 0 3) 0)])),
  (gA G 5, .inl (gC G 0, 14, .inl (μ.1 (vSt 0 4)))),
  (gA G 6, .inl (gC G 0, 14, .inl (μ.1 (vSt 0 5)))),
  (gA G 7, .inl (gC G 6, 14, .inr (.inr (.inr (.inr (fun i => if i < 14 then some (gA G (8 + i)) else none)))))),
  (gA G 8, .inl (gC G 0, 14, .inl (μ.1 (vSt 0 8)))),
  (gA G 9, .inl (gC G 0, 14, .inl (μ.1 (vSt 0 9)))),
  (gA G 10, .inl (gC G 0, 14, .inl (μ.1 (vSt 0 10)))),
  (gA G 11, .inl (gC G 0, 14, .inl (μ.1 (vSt 0 11)))),
  (gA G 12, .inl (gC G 0, 14, .inl (μ.1 (vSt 0 12)))),
  (gA G 13, .inl (gC G 0, 14, .inl (μ.1 (vSt 0 13)))),
  (gA G 14, .inl (gC G 0, 14, .inl (μ.1 (vSt 0 14)))),
  (gA G 15, .inl (gC G 0, 14, .inl (μ.1 (vSt 0 15)))),
  (gA G 16, .inl (gC G 0, 14, .inl (μ.1 (vSt 0 16)))),
  (gA G 17, .inl (gC G 0, 14, .inl (μ.1 (vSt 0 17)))),
  (gA G 18, .inl (gC G 0, 14, .inl (μ.1 (vSt 0 18)))),
  (gA G 19, .inl (gC G 0, 14, .inl (μ.1 (vSt 0 19)))),
  (gA G 20, .inl (gC G 0, 14, .inl (μ.1 (vSt 0 20)))),
  (gA G 21, .inl (gC G 0, 14, .inl (μ.1 (vSt 0 21)))),
  (gA G 22, .inl (gC G 0, 201, .inl (μ.1 (vSt 0 6)))),
  (gA G 23, .inl (gC G 0, 15, .inl (μ.1 (vSt 0 7)))),
  (gA G 24, .inr (8, [.ref (gA G 25), .ref (gA G 26), .ref (gA G 27), .ref (gA G 42), .ref (gA G 43), .int (μ.1 (vSt 1 0) 0), .int (μ.1 (vSt 1 1) 0), .int (μ.1 (vSt 1 2) 0), .int (μ.1 (vSt 1 3) 0)])),
  (gA G 25, .inl (gC G 0, 14, .inl (μ.1 (vSt 1 4)))),
  (gA G 26, .inl (gC G 0, 14, .inl (μ.1 (vSt 1 5)))),
  (gA G 27, .inl (gC G 6, 14, .inr (.inr (.inr (.inr (fun i => if i < 14 then some (gA G (28 + i)) else none)))))),
  (gA G 28, .inl (gC G 0, 14, .inl (μ.1 (vSt 1 8)))),
  (gA G 29, .inl (gC G 0, 14, .inl (μ.1 (vSt 1 9)))),
  (gA G 30, .inl (gC G 0, 14, .inl (μ.1 (vSt 1 10)))),
  (gA G 31, .inl (gC G 0, 14, .inl (μ.1 (vSt 1 11)))),
  (gA G 32, .inl (gC G 0, 14, .inl (μ.1 (vSt 1 12)))),
  (gA G 33, .inl (gC G 0, 14, .inl (μ.1 (vSt 1 13)))),
  (gA G 34, .inl (gC G 0, 14, .inl (μ.1 (vSt 1 14)))),
  (gA G 35, .inl (gC G 0, 14, .inl (μ.1 (vSt 1 15)))),
  (gA G 36, .inl (gC G 0, 14, .inl (μ.1 (vSt 1 16)))),
  (gA G 37, .inl (gC G 0, 14, .inl (μ.1 (vSt 1 17)))),
  (gA G 38, .inl (gC G 0, 14, .inl (μ.1 (vSt 1 18)))),
  (gA G 39, .inl (gC G 0, 14, .inl (μ.1 (vSt 1 19)))),
  (gA G 40, .inl (gC G 0, 14, .inl (μ.1 (vSt 1 20)))),
  (gA G 41, .inl (gC G 0, 14, .inl (μ.1 (vSt 1 21)))),
  (gA G 42, .inl (gC G 0, 201, .inl (μ.1 (vSt 1 6)))),
  (gA G 43, .inl (gC G 0, 15, .inl (μ.1 (vSt 1 7)))),
  (gA G 44, .inr (8, [.ref (gA G 45), .ref (gA G 46), .ref (gA G 47), .ref (gA G 62), .ref (gA G 63), .int (μ.1 (vSt 2 0) 0), .int (μ.1 (vSt 2 1) 0), .int (μ.1 (vSt 2 2) 0), .int (μ.1 (vSt 2 3) 0)])),
  (gA G 45, .inl (gC G 0, 14, .inl (μ.1 (vSt 2 4)))),
  (gA G 46, .inl (gC G 0, 14, .inl (μ.1 (vSt 2 5)))),
  (gA G 47, .inl (gC G 6, 14, .inr (.inr (.inr (.inr (fun i => if i < 14 then some (gA G (48 + i)) else none)))))),
  (gA G 48, .inl (gC G 0, 14, .inl (μ.1 (vSt 2 8)))),
  (gA G 49, .inl (gC G 0, 14, .inl (μ.1 (vSt 2 9)))),
  (gA G 50, .inl (gC G 0, 14, .inl (μ.1 (vSt 2 10)))),
  (gA G 51, .inl (gC G 0, 14, .inl (μ.1 (vSt 2 11)))),
  (gA G 52, .inl (gC G 0, 14, .inl (μ.1 (vSt 2 12)))),
  (gA G 53, .inl (gC G 0, 14, .inl (μ.1 (vSt 2 13)))),
  (gA G 54, .inl (gC G 0, 14, .inl (μ.1 (vSt 2 14)))),
  (gA G 55, .inl (gC G 0, 14, .inl (μ.1 (vSt 2 15)))),
  (gA G 56, .inl (gC G 0, 14, .inl (μ.1 (vSt 2 16)))),
  (gA G 57, .inl (gC G 0, 14, .inl (μ.1 (vSt 2 17)))),
  (gA G 58, .inl (gC G 0, 14, .inl (μ.1 (vSt 2 18)))),
  (gA G 59, .inl (gC G 0, 14, .inl (μ.1 (vSt 2 19)))),
  (gA G 60, .inl (gC G 0, 14, .inl (μ.1 (vSt 2 20)))),
  (gA G 61, .inl (gC G 0, 14, .inl (μ.1 (vSt 2 21)))),
  (gA G 62, .inl (gC G 0, 201, .inl (μ.1 (vSt 2 6)))),
  (gA G 63, .inl (gC G 0, 15, .inl (μ.1 (vSt 2 7)))),
  (gA G 64, .inl (gC G 5, 2, .inr (.inr (.inr (.inr (fun i => if i < 2 then some (gA G (24 + 20 * i)) else none)))))),
  (gA G 65, .inl (gC G 2, 2, .inl (μ.1 v_x_isKept))),
  (gA G 66, .inl (gC G 4, 2, .inr (.inr (.inr (.inr (fun i => if i < 2 then some (gA G (67 + 3 * (μ.1 v_x_rules i).toNatClampNeg)) else none)))))),
  (gA G 67, .inr (5, [.ref (gA G 68), .ref (gA G 69), .int (μ.1 (vRu 0 0) 0), .int (μ.1 (vRu 0 1) 0)])),
  (gA G 68, .inl (gC G 0, 40, .inl (μ.1 (vRu 0 2)))),
  (gA G 69, .inl (gC G 0, 40, .inl (μ.1 (vRu 0 3)))),
  (gA G 70, .inr (5, [.ref (gA G 71), .ref (gA G 72), .int (μ.1 (vRu 1 0) 0), .int (μ.1 (vRu 1 1) 0)])),
  (gA G 71, .inl (gC G 0, 40, .inl (μ.1 (vRu 1 2)))),
  (gA G 72, .inl (gC G 0, 40, .inl (μ.1 (vRu 1 3)))),
  (gA G 73, .inr (5, [.ref (gA G 74), .ref (gA G 75), .int (μ.1 (vRu 2 0) 0), .int (μ.1 (vRu 2 1) 0)])),
  (gA G 74, .inl (gC G 0, 40, .inl (μ.1 (vRu 2 2)))),
  (gA G 75, .inl (gC G 0, 40, .inl (μ.1 (vRu 2 3)))),
  (gA G 76, .inr (9, [.ref (gA G 4), .ref (gA G (if μ.1 v_sr_text 0 = 1 then 1 else 77)), .int (μ.1 v_sr_length 0), .int (μ.1 v_sr_limit 0), .int (μ.1 v_sr_at 0), .int (μ.1 v_sr_there 0), .int (μ.1 v_sr_telling 0)])),
  (gA G 77, .inl (gC G 0, 0, .inl (fun _ => 0))),
  (gA G 78, .inr (6, [.ref (gA G 66), .ref (gA G (67 + 3 * (μ.1 v_rr_spare 0).toNatClampNeg)), .ref (gA G (if μ.1 v_rr_text 0 = 1 then 1 else 79)), .int (μ.1 v_rr_limit 0), .int (μ.1 v_rr_at 0)])),
  (gA G 79, .inl (gC G 0, 0, .inl (fun _ => 0))),
  (gA G 80, .inr (1, [.ref (gA G 4), .ref (gA G 81), .ref (gA G 82), .ref (gA G 83), .ref (gA G 84), .long (μ.2.1 (lHe 0 0) 0), .long (μ.2.1 (lHe 0 1) 0), .int (μ.1 (vHe 0 0) 0), .ref (dy 0), .int (μ.1 (vHe 0 1) 0)])),
  (gA G 81, .inl (gC G 3, 14, .inr (.inl (μ.2.1 (lHe 0 2))))),
  (gA G 82, .inl (gC G 3, 14, .inr (.inl (μ.2.1 (lHe 0 3))))),
  (gA G 83, .inl (gC G 0, 14, .inl (μ.1 (vHe 0 4)))),
  (gA G 84, .inl (gC G 0, 14, .inl (μ.1 (vHe 0 5)))),
  (gA G 85, .inr (1, [.ref (gA G 4), .ref (gA G 86), .ref (gA G 87), .ref (gA G 88), .ref (gA G 89), .long (μ.2.1 (lHe 1 0) 0), .long (μ.2.1 (lHe 1 1) 0), .int (μ.1 (vHe 1 0) 0), .ref (dy 1), .int (μ.1 (vHe 1 1) 0)])),
  (gA G 86, .inl (gC G 3, 14, .inr (.inl (μ.2.1 (lHe 1 2))))),
  (gA G 87, .inl (gC G 3, 14, .inr (.inl (μ.2.1 (lHe 1 3))))),
  (gA G 88, .inl (gC G 0, 14, .inl (μ.1 (vHe 1 4)))),
  (gA G 89, .inl (gC G 0, 14, .inl (μ.1 (vHe 1 5)))),
  (gA G 90, .inr (2, [.ref (dy 2), .int (μ.1 v_me_size 0), .int (μ.1 v_me_stamp 0)])),
  (gA G 91, .inr (3, [.ref (gA G 4), .ref (gA G 80), .ref (gA G 90), .ref (gA G 2), .int (μ.1 v_or_till 0), .int (μ.1 v_or_period 0), .int (μ.1 v_or_entry 0), .int (μ.1 v_or_least 0), .int (μ.1 v_or_always 0), .int (μ.1 v_or_ever 0)])),
  (gA G 92, .inr (10, [.ref (gA G 4), .ref (gA G 80), .ref (gA G 90), .ref (gA G 2), .int (μ.1 v_ta_wanted 0), .int (μ.1 v_ta_sum 0), .int (μ.1 v_ta_soonest 0)])),
  (gA G 93, .inr (7, [.ref (gA G 4), .ref (gA G 80), .ref (gA G 90), .ref (gA G 66), .ref (gA G 2), .ref (gA G 94), .ref (gA G 109)])),
  (gA G 94, .inl (gC G 6, 14, .inr (.inr (.inr (.inr (fun i => if i < 14 then some (gA G (95 + i)) else none)))))),
  (gA G 95, .inl (gC G 0, 7, .inl (μ.1 (vFa 0)))),
  (gA G 96, .inl (gC G 0, 7, .inl (μ.1 (vFa 1)))),
  (gA G 97, .inl (gC G 0, 7, .inl (μ.1 (vFa 2)))),
  (gA G 98, .inl (gC G 0, 7, .inl (μ.1 (vFa 3)))),
  (gA G 99, .inl (gC G 0, 7, .inl (μ.1 (vFa 4)))),
  (gA G 100, .inl (gC G 0, 7, .inl (μ.1 (vFa 5)))),
  (gA G 101, .inl (gC G 0, 7, .inl (μ.1 (vFa 6)))),
  (gA G 102, .inl (gC G 0, 7, .inl (μ.1 (vFa 7)))),
  (gA G 103, .inl (gC G 0, 7, .inl (μ.1 (vFa 8)))),
  (gA G 104, .inl (gC G 0, 7, .inl (μ.1 (vFa 9)))),
  (gA G 105, .inl (gC G 0, 7, .inl (μ.1 (vFa 10)))),
  (gA G 106, .inl (gC G 0, 7, .inl (μ.1 (vFa 11)))),
  (gA G 107, .inl (gC G 0, 7, .inl (μ.1 (vFa 12)))),
  (gA G 108, .inl (gC G 0, 7, .inl (μ.1 (vFa 13)))),
  (gA G 109, .inl (gC G 0, 2, .inl (μ.1 v_sh_paid))),
  (gA G 110, .inr (0, [.ref (gA G 4), .ref (gA G 2), .ref (gA G 85)])),
  (gA G 111, .inr (12, [.int (μ.1 v_m_people 0), .ref (gA G 112), .ref (gA G 113), .int (μ.1 v_m_firm 0), .ref (gA G 114), .ref (gA G 115), .int (μ.1 v_m_days 0), .ref (gA G 116), .int (μ.1 v_m_typed 0), .ref (gA G 117), .int (μ.1 v_m_rowMany 0), .int (μ.1 v_m_thrown 0), mRd (gA G) (μ.1 v_m_read 0), .int (μ.1 v_m_size 0), .int (μ.1 v_m_top 0), .int (μ.1 v_m_at 0), .int (μ.1 v_m_wrong 0), .ref (gA G 118), .ref (gA G 119), .ref (gA G 120), .int (μ.1 v_m_question 0), .int (μ.1 v_m_restIn 0), .int (μ.1 v_m_restRound 0), .int (μ.1 v_m_restState 0), .ref (gA G 121), .ref (gA G 122), .ref (gA G 123), .ref (gA G 124), .ref (gA G 125), .ref (gA G 126), .ref (gA G 129), .int (μ.1 v_m_askedShop 0), .int (μ.1 v_m_askedOne 0), .int (μ.1 v_m_askedState 0), .ref (gA G 130), .int (μ.1 v_m_peopleTold 0), .ref (gA G 131), .ref (gA G 132), .ref (gA G 133)])),
  (gA G 112, .inl (gC G 0, 14, .inl (μ.1 v_m_need))),
  (gA G 113, .inl (gC G 0, 14, .inl (μ.1 v_m_price))),
  (gA G 114, .inl (gC G 0, 196, .inl (μ.1 v_m_loud))),
  (gA G 115, .inl (gC G 0, 201, .inl (μ.1 v_m_states))),
  (gA G 116, .inl (gC G 1, 80, .inl (μ.1 v_m_text))),
  (gA G 117, .inl (gC G 3, 210, .inr (.inl (μ.2.1 l_m_row)))),
  (gA G 118, .inl (gC G 0, 320, .inl (μ.1 v_m_line))),
  (gA G 119, .inl (gC G 0, 16384, .inl (μ.1 v_m_cameOn))),
  (gA G 120, .inl (gC G 0, 16384, .inl (μ.1 v_m_cameIn))),
  (gA G 121, .inl (gC G 0, 14, .inl (μ.1 v_m_needWas))),
  (gA G 122, .inl (gC G 0, 14, .inl (μ.1 v_m_far))),
  (gA G 123, .inl (gC G 2, 16384, .inl (μ.1 v_m_isLast))),
  (gA G 124, .inl (gC G 0, 114688, .inl (μ.1 v_m_sums))),
  (gA G 125, .inl (gC G 0, 114688, .inl (μ.1 v_m_sumsIn))),
  (gA G 126, .inl (gC G 7, 2, .inr (.inr (.inr (.inr (fun i => if i < 2 then some (gA G (127 + i)) else none)))))),
  (gA G 127, .inl (gC G 1, 40, .inl (μ.1 v_m_rules0))),
  (gA G 128, .inl (gC G 1, 40, .inl (μ.1 v_m_rules1))),
  (gA G 129, .inl (gC G 0, 2, .inl (μ.1 v_m_ruleSize))),
  (gA G 130, .inl (gC G 0, 4, .inl (μ.1 v_m_loudWas))),
  (gA G 131, .inl (gC G 0, 824, .inl (μ.1 v_m_kept))),
  (gA G 132, .inl (gC G 2, 2, .inl (μ.1 v_m_isKept))),
  (gA G 133, .inl (gC G 0, 2, .inl (μ.1 v_m_keptTold))),
  (gA G 134, .inl (gC G 3, 1, .inr (.inl (μ.2.1 l_out)))),
  (dy 0, .inl (gC G 0, (μ.1 (vHe 0 2) 0).toNatClampNeg, .inl (μ.1 (vHe 0 3)))),
  (dy 1, .inl (gC G 0, (μ.1 (vHe 1 2) 0).toNatClampNeg, .inl (μ.1 (vHe 1 3)))),
  (dy 2, .inl (gC G 0, (μ.1 v_me_cellsLen 0).toNatClampNeg, .inl (μ.1 v_me_cells)))]
theorem w_0 (G : Gx) (μ : Mem) (dy : Nat → Nat) : (wsOf G μ dy)[0]? = some (gA G 0, .inr (11, [.ref (gA G 1), .int (μ.1 v_x_signs 0), .ref (gA G 2), .ref (gA G 4), .ref (gA G 64), .ref (gA G 65), .ref (gA G 66), .ref (gA G 76), .ref (gA G 78), .ref (gA G 80), .ref (gA G 90), .ref (gA G 91), .ref (gA G 92), .ref (gA G 93), .ref (gA G 110)])) := rfl
theorem w_1 (G : Gx) (μ : Mem) (dy : Nat → Nat) : (wsOf G μ dy)[1]? = some (gA G 1, .inl (gC G 0, 80, .inl (μ.1 v_x_text))) := rfl
theorem w_2 (G : Gx) (μ : Mem) (dy : Nat → Nat) : (wsOf G μ dy)[2]? = some (gA G 2, .inr (4, [.ref (gA G 3), .int (μ.1 v_row_size 0)])) := rfl
theorem w_3 (G : Gx) (μ : Mem) (dy : Nat → Nat) : (wsOf G μ dy)[3]? = some (gA G 3, .inl (gC G 3, 16, .inr (.inl (μ.2.1 l_row_numbers)))) := rfl
theorem w_4 (G : Gx) (μ : Mem) (dy : Nat → Nat) : (wsOf G μ dy)[4]? = some (gA G 4, .inr (8, [.ref (gA G 5), .ref (gA G 6), .ref (gA G 7), .ref (gA G 22), .ref (gA G 23), .int (μ.1 (vSt 0 0) 0), .int (μ.1 (vSt 0 1) 0), .int (μ.1 (vSt 0 2) 0), .int (μ.1 (vSt 0 3) 0)])) := rfl
theorem w_5 (G : Gx) (μ : Mem) (dy : Nat → Nat) : (wsOf G μ dy)[5]? = some (gA G 5, .inl (gC G 0, 14, .inl (μ.1 (vSt 0 4)))) := rfl
theorem w_6 (G : Gx) (μ : Mem) (dy : Nat → Nat) : (wsOf G μ dy)[6]? = some (gA G 6, .inl (gC G 0, 14, .inl (μ.1 (vSt 0 5)))) := rfl
theorem w_7 (G : Gx) (μ : Mem) (dy : Nat → Nat) : (wsOf G μ dy)[7]? = some (gA G 7, .inl (gC G 6, 14, .inr (.inr (.inr (.inr (fun i => if i < 14 then some (gA G (8 + i)) else none)))))) := rfl
theorem w_8 (G : Gx) (μ : Mem) (dy : Nat → Nat) : (wsOf G μ dy)[8]? = some (gA G 8, .inl (gC G 0, 14, .inl (μ.1 (vSt 0 8)))) := rfl
theorem w_9 (G : Gx) (μ : Mem) (dy : Nat → Nat) : (wsOf G μ dy)[9]? = some (gA G 9, .inl (gC G 0, 14, .inl (μ.1 (vSt 0 9)))) := rfl
theorem w_10 (G : Gx) (μ : Mem) (dy : Nat → Nat) : (wsOf G μ dy)[10]? = some (gA G 10, .inl (gC G 0, 14, .inl (μ.1 (vSt 0 10)))) := rfl
theorem w_11 (G : Gx) (μ : Mem) (dy : Nat → Nat) : (wsOf G μ dy)[11]? = some (gA G 11, .inl (gC G 0, 14, .inl (μ.1 (vSt 0 11)))) := rfl
theorem w_12 (G : Gx) (μ : Mem) (dy : Nat → Nat) : (wsOf G μ dy)[12]? = some (gA G 12, .inl (gC G 0, 14, .inl (μ.1 (vSt 0 12)))) := rfl
theorem w_13 (G : Gx) (μ : Mem) (dy : Nat → Nat) : (wsOf G μ dy)[13]? = some (gA G 13, .inl (gC G 0, 14, .inl (μ.1 (vSt 0 13)))) := rfl
theorem w_14 (G : Gx) (μ : Mem) (dy : Nat → Nat) : (wsOf G μ dy)[14]? = some (gA G 14, .inl (gC G 0, 14, .inl (μ.1 (vSt 0 14)))) := rfl
theorem w_15 (G : Gx) (μ : Mem) (dy : Nat → Nat) : (wsOf G μ dy)[15]? = some (gA G 15, .inl (gC G 0, 14, .inl (μ.1 (vSt 0 15)))) := rfl
theorem w_16 (G : Gx) (μ : Mem) (dy : Nat → Nat) : (wsOf G μ dy)[16]? = some (gA G 16, .inl (gC G 0, 14, .inl (μ.1 (vSt 0 16)))) := rfl
theorem w_17 (G : Gx) (μ : Mem) (dy : Nat → Nat) : (wsOf G μ dy)[17]? = some (gA G 17, .inl (gC G 0, 14, .inl (μ.1 (vSt 0 17)))) := rfl
theorem w_18 (G : Gx) (μ : Mem) (dy : Nat → Nat) : (wsOf G μ dy)[18]? = some (gA G 18, .inl (gC G 0, 14, .inl (μ.1 (vSt 0 18)))) := rfl
theorem w_19 (G : Gx) (μ : Mem) (dy : Nat → Nat) : (wsOf G μ dy)[19]? = some (gA G 19, .inl (gC G 0, 14, .inl (μ.1 (vSt 0 19)))) := rfl
theorem w_20 (G : Gx) (μ : Mem) (dy : Nat → Nat) : (wsOf G μ dy)[20]? = some (gA G 20, .inl (gC G 0, 14, .inl (μ.1 (vSt 0 20)))) := rfl
theorem w_21 (G : Gx) (μ : Mem) (dy : Nat → Nat) : (wsOf G μ dy)[21]? = some (gA G 21, .inl (gC G 0, 14, .inl (μ.1 (vSt 0 21)))) := rfl
theorem w_22 (G : Gx) (μ : Mem) (dy : Nat → Nat) : (wsOf G μ dy)[22]? = some (gA G 22, .inl (gC G 0, 201, .inl (μ.1 (vSt 0 6)))) := rfl
theorem w_23 (G : Gx) (μ : Mem) (dy : Nat → Nat) : (wsOf G μ dy)[23]? = some (gA G 23, .inl (gC G 0, 15, .inl (μ.1 (vSt 0 7)))) := rfl
theorem w_24 (G : Gx) (μ : Mem) (dy : Nat → Nat) : (wsOf G μ dy)[24]? = some (gA G 24, .inr (8, [.ref (gA G 25), .ref (gA G 26), .ref (gA G 27), .ref (gA G 42), .ref (gA G 43), .int (μ.1 (vSt 1 0) 0), .int (μ.1 (vSt 1 1) 0), .int (μ.1 (vSt 1 2) 0), .int (μ.1 (vSt 1 3) 0)])) := rfl
theorem w_25 (G : Gx) (μ : Mem) (dy : Nat → Nat) : (wsOf G μ dy)[25]? = some (gA G 25, .inl (gC G 0, 14, .inl (μ.1 (vSt 1 4)))) := rfl
theorem w_26 (G : Gx) (μ : Mem) (dy : Nat → Nat) : (wsOf G μ dy)[26]? = some (gA G 26, .inl (gC G 0, 14, .inl (μ.1 (vSt 1 5)))) := rfl
theorem w_27 (G : Gx) (μ : Mem) (dy : Nat → Nat) : (wsOf G μ dy)[27]? = some (gA G 27, .inl (gC G 6, 14, .inr (.inr (.inr (.inr (fun i => if i < 14 then some (gA G (28 + i)) else none)))))) := rfl
theorem w_28 (G : Gx) (μ : Mem) (dy : Nat → Nat) : (wsOf G μ dy)[28]? = some (gA G 28, .inl (gC G 0, 14, .inl (μ.1 (vSt 1 8)))) := rfl
theorem w_29 (G : Gx) (μ : Mem) (dy : Nat → Nat) : (wsOf G μ dy)[29]? = some (gA G 29, .inl (gC G 0, 14, .inl (μ.1 (vSt 1 9)))) := rfl
theorem w_30 (G : Gx) (μ : Mem) (dy : Nat → Nat) : (wsOf G μ dy)[30]? = some (gA G 30, .inl (gC G 0, 14, .inl (μ.1 (vSt 1 10)))) := rfl
theorem w_31 (G : Gx) (μ : Mem) (dy : Nat → Nat) : (wsOf G μ dy)[31]? = some (gA G 31, .inl (gC G 0, 14, .inl (μ.1 (vSt 1 11)))) := rfl
theorem w_32 (G : Gx) (μ : Mem) (dy : Nat → Nat) : (wsOf G μ dy)[32]? = some (gA G 32, .inl (gC G 0, 14, .inl (μ.1 (vSt 1 12)))) := rfl
theorem w_33 (G : Gx) (μ : Mem) (dy : Nat → Nat) : (wsOf G μ dy)[33]? = some (gA G 33, .inl (gC G 0, 14, .inl (μ.1 (vSt 1 13)))) := rfl
theorem w_34 (G : Gx) (μ : Mem) (dy : Nat → Nat) : (wsOf G μ dy)[34]? = some (gA G 34, .inl (gC G 0, 14, .inl (μ.1 (vSt 1 14)))) := rfl
theorem w_35 (G : Gx) (μ : Mem) (dy : Nat → Nat) : (wsOf G μ dy)[35]? = some (gA G 35, .inl (gC G 0, 14, .inl (μ.1 (vSt 1 15)))) := rfl
theorem w_36 (G : Gx) (μ : Mem) (dy : Nat → Nat) : (wsOf G μ dy)[36]? = some (gA G 36, .inl (gC G 0, 14, .inl (μ.1 (vSt 1 16)))) := rfl
theorem w_37 (G : Gx) (μ : Mem) (dy : Nat → Nat) : (wsOf G μ dy)[37]? = some (gA G 37, .inl (gC G 0, 14, .inl (μ.1 (vSt 1 17)))) := rfl
theorem w_38 (G : Gx) (μ : Mem) (dy : Nat → Nat) : (wsOf G μ dy)[38]? = some (gA G 38, .inl (gC G 0, 14, .inl (μ.1 (vSt 1 18)))) := rfl
theorem w_39 (G : Gx) (μ : Mem) (dy : Nat → Nat) : (wsOf G μ dy)[39]? = some (gA G 39, .inl (gC G 0, 14, .inl (μ.1 (vSt 1 19)))) := rfl
theorem w_40 (G : Gx) (μ : Mem) (dy : Nat → Nat) : (wsOf G μ dy)[40]? = some (gA G 40, .inl (gC G 0, 14, .inl (μ.1 (vSt 1 20)))) := rfl
theorem w_41 (G : Gx) (μ : Mem) (dy : Nat → Nat) : (wsOf G μ dy)[41]? = some (gA G 41, .inl (gC G 0, 14, .inl (μ.1 (vSt 1 21)))) := rfl
theorem w_42 (G : Gx) (μ : Mem) (dy : Nat → Nat) : (wsOf G μ dy)[42]? = some (gA G 42, .inl (gC G 0, 201, .inl (μ.1 (vSt 1 6)))) := rfl
theorem w_43 (G : Gx) (μ : Mem) (dy : Nat → Nat) : (wsOf G μ dy)[43]? = some (gA G 43, .inl (gC G 0, 15, .inl (μ.1 (vSt 1 7)))) := rfl
theorem w_44 (G : Gx) (μ : Mem) (dy : Nat → Nat) : (wsOf G μ dy)[44]? = some (gA G 44, .inr (8, [.ref (gA G 45), .ref (gA G 46), .ref (gA G 47), .ref (gA G 62), .ref (gA G 63), .int (μ.1 (vSt 2 0) 0), .int (μ.1 (vSt 2 1) 0), .int (μ.1 (vSt 2 2) 0), .int (μ.1 (vSt 2 3) 0)])) := rfl
theorem w_45 (G : Gx) (μ : Mem) (dy : Nat → Nat) : (wsOf G μ dy)[45]? = some (gA G 45, .inl (gC G 0, 14, .inl (μ.1 (vSt 2 4)))) := rfl
theorem w_46 (G : Gx) (μ : Mem) (dy : Nat → Nat) : (wsOf G μ dy)[46]? = some (gA G 46, .inl (gC G 0, 14, .inl (μ.1 (vSt 2 5)))) := rfl
theorem w_47 (G : Gx) (μ : Mem) (dy : Nat → Nat) : (wsOf G μ dy)[47]? = some (gA G 47, .inl (gC G 6, 14, .inr (.inr (.inr (.inr (fun i => if i < 14 then some (gA G (48 + i)) else none)))))) := rfl
theorem w_48 (G : Gx) (μ : Mem) (dy : Nat → Nat) : (wsOf G μ dy)[48]? = some (gA G 48, .inl (gC G 0, 14, .inl (μ.1 (vSt 2 8)))) := rfl
theorem w_49 (G : Gx) (μ : Mem) (dy : Nat → Nat) : (wsOf G μ dy)[49]? = some (gA G 49, .inl (gC G 0, 14, .inl (μ.1 (vSt 2 9)))) := rfl
theorem w_50 (G : Gx) (μ : Mem) (dy : Nat → Nat) : (wsOf G μ dy)[50]? = some (gA G 50, .inl (gC G 0, 14, .inl (μ.1 (vSt 2 10)))) := rfl
theorem w_51 (G : Gx) (μ : Mem) (dy : Nat → Nat) : (wsOf G μ dy)[51]? = some (gA G 51, .inl (gC G 0, 14, .inl (μ.1 (vSt 2 11)))) := rfl
theorem w_52 (G : Gx) (μ : Mem) (dy : Nat → Nat) : (wsOf G μ dy)[52]? = some (gA G 52, .inl (gC G 0, 14, .inl (μ.1 (vSt 2 12)))) := rfl
theorem w_53 (G : Gx) (μ : Mem) (dy : Nat → Nat) : (wsOf G μ dy)[53]? = some (gA G 53, .inl (gC G 0, 14, .inl (μ.1 (vSt 2 13)))) := rfl
theorem w_54 (G : Gx) (μ : Mem) (dy : Nat → Nat) : (wsOf G μ dy)[54]? = some (gA G 54, .inl (gC G 0, 14, .inl (μ.1 (vSt 2 14)))) := rfl
theorem w_55 (G : Gx) (μ : Mem) (dy : Nat → Nat) : (wsOf G μ dy)[55]? = some (gA G 55, .inl (gC G 0, 14, .inl (μ.1 (vSt 2 15)))) := rfl
theorem w_56 (G : Gx) (μ : Mem) (dy : Nat → Nat) : (wsOf G μ dy)[56]? = some (gA G 56, .inl (gC G 0, 14, .inl (μ.1 (vSt 2 16)))) := rfl
theorem w_57 (G : Gx) (μ : Mem) (dy : Nat → Nat) : (wsOf G μ dy)[57]? = some (gA G 57, .inl (gC G 0, 14, .inl (μ.1 (vSt 2 17)))) := rfl
theorem w_58 (G : Gx) (μ : Mem) (dy : Nat → Nat) : (wsOf G μ dy)[58]? = some (gA G 58, .inl (gC G 0, 14, .inl (μ.1 (vSt 2 18)))) := rfl
theorem w_59 (G : Gx) (μ : Mem) (dy : Nat → Nat) : (wsOf G μ dy)[59]? = some (gA G 59, .inl (gC G 0, 14, .inl (μ.1 (vSt 2 19)))) := rfl
theorem w_60 (G : Gx) (μ : Mem) (dy : Nat → Nat) : (wsOf G μ dy)[60]? = some (gA G 60, .inl (gC G 0, 14, .inl (μ.1 (vSt 2 20)))) := rfl
theorem w_61 (G : Gx) (μ : Mem) (dy : Nat → Nat) : (wsOf G μ dy)[61]? = some (gA G 61, .inl (gC G 0, 14, .inl (μ.1 (vSt 2 21)))) := rfl
theorem w_62 (G : Gx) (μ : Mem) (dy : Nat → Nat) : (wsOf G μ dy)[62]? = some (gA G 62, .inl (gC G 0, 201, .inl (μ.1 (vSt 2 6)))) := rfl
theorem w_63 (G : Gx) (μ : Mem) (dy : Nat → Nat) : (wsOf G μ dy)[63]? = some (gA G 63, .inl (gC G 0, 15, .inl (μ.1 (vSt 2 7)))) := rfl
theorem w_64 (G : Gx) (μ : Mem) (dy : Nat → Nat) : (wsOf G μ dy)[64]? = some (gA G 64, .inl (gC G 5, 2, .inr (.inr (.inr (.inr (fun i => if i < 2 then some (gA G (24 + 20 * i)) else none)))))) := rfl
theorem w_65 (G : Gx) (μ : Mem) (dy : Nat → Nat) : (wsOf G μ dy)[65]? = some (gA G 65, .inl (gC G 2, 2, .inl (μ.1 v_x_isKept))) := rfl
theorem w_66 (G : Gx) (μ : Mem) (dy : Nat → Nat) : (wsOf G μ dy)[66]? = some (gA G 66, .inl (gC G 4, 2, .inr (.inr (.inr (.inr (fun i => if i < 2 then some (gA G (67 + 3 * (μ.1 v_x_rules i).toNatClampNeg)) else none)))))) := rfl
theorem w_67 (G : Gx) (μ : Mem) (dy : Nat → Nat) : (wsOf G μ dy)[67]? = some (gA G 67, .inr (5, [.ref (gA G 68), .ref (gA G 69), .int (μ.1 (vRu 0 0) 0), .int (μ.1 (vRu 0 1) 0)])) := rfl
theorem w_68 (G : Gx) (μ : Mem) (dy : Nat → Nat) : (wsOf G μ dy)[68]? = some (gA G 68, .inl (gC G 0, 40, .inl (μ.1 (vRu 0 2)))) := rfl
theorem w_69 (G : Gx) (μ : Mem) (dy : Nat → Nat) : (wsOf G μ dy)[69]? = some (gA G 69, .inl (gC G 0, 40, .inl (μ.1 (vRu 0 3)))) := rfl
theorem w_70 (G : Gx) (μ : Mem) (dy : Nat → Nat) : (wsOf G μ dy)[70]? = some (gA G 70, .inr (5, [.ref (gA G 71), .ref (gA G 72), .int (μ.1 (vRu 1 0) 0), .int (μ.1 (vRu 1 1) 0)])) := rfl
theorem w_71 (G : Gx) (μ : Mem) (dy : Nat → Nat) : (wsOf G μ dy)[71]? = some (gA G 71, .inl (gC G 0, 40, .inl (μ.1 (vRu 1 2)))) := rfl
theorem w_72 (G : Gx) (μ : Mem) (dy : Nat → Nat) : (wsOf G μ dy)[72]? = some (gA G 72, .inl (gC G 0, 40, .inl (μ.1 (vRu 1 3)))) := rfl
theorem w_73 (G : Gx) (μ : Mem) (dy : Nat → Nat) : (wsOf G μ dy)[73]? = some (gA G 73, .inr (5, [.ref (gA G 74), .ref (gA G 75), .int (μ.1 (vRu 2 0) 0), .int (μ.1 (vRu 2 1) 0)])) := rfl
theorem w_74 (G : Gx) (μ : Mem) (dy : Nat → Nat) : (wsOf G μ dy)[74]? = some (gA G 74, .inl (gC G 0, 40, .inl (μ.1 (vRu 2 2)))) := rfl
theorem w_75 (G : Gx) (μ : Mem) (dy : Nat → Nat) : (wsOf G μ dy)[75]? = some (gA G 75, .inl (gC G 0, 40, .inl (μ.1 (vRu 2 3)))) := rfl
theorem w_76 (G : Gx) (μ : Mem) (dy : Nat → Nat) : (wsOf G μ dy)[76]? = some (gA G 76, .inr (9, [.ref (gA G 4), .ref (gA G (if μ.1 v_sr_text 0 = 1 then 1 else 77)), .int (μ.1 v_sr_length 0), .int (μ.1 v_sr_limit 0), .int (μ.1 v_sr_at 0), .int (μ.1 v_sr_there 0), .int (μ.1 v_sr_telling 0)])) := rfl
theorem w_77 (G : Gx) (μ : Mem) (dy : Nat → Nat) : (wsOf G μ dy)[77]? = some (gA G 77, .inl (gC G 0, 0, .inl (fun _ => 0))) := rfl
theorem w_78 (G : Gx) (μ : Mem) (dy : Nat → Nat) : (wsOf G μ dy)[78]? = some (gA G 78, .inr (6, [.ref (gA G 66), .ref (gA G (67 + 3 * (μ.1 v_rr_spare 0).toNatClampNeg)), .ref (gA G (if μ.1 v_rr_text 0 = 1 then 1 else 79)), .int (μ.1 v_rr_limit 0), .int (μ.1 v_rr_at 0)])) := rfl
theorem w_79 (G : Gx) (μ : Mem) (dy : Nat → Nat) : (wsOf G μ dy)[79]? = some (gA G 79, .inl (gC G 0, 0, .inl (fun _ => 0))) := rfl
theorem w_80 (G : Gx) (μ : Mem) (dy : Nat → Nat) : (wsOf G μ dy)[80]? = some (gA G 80, .inr (1, [.ref (gA G 4), .ref (gA G 81), .ref (gA G 82), .ref (gA G 83), .ref (gA G 84), .long (μ.2.1 (lHe 0 0) 0), .long (μ.2.1 (lHe 0 1) 0), .int (μ.1 (vHe 0 0) 0), .ref (dy 0), .int (μ.1 (vHe 0 1) 0)])) := rfl
theorem w_81 (G : Gx) (μ : Mem) (dy : Nat → Nat) : (wsOf G μ dy)[81]? = some (gA G 81, .inl (gC G 3, 14, .inr (.inl (μ.2.1 (lHe 0 2))))) := rfl
theorem w_82 (G : Gx) (μ : Mem) (dy : Nat → Nat) : (wsOf G μ dy)[82]? = some (gA G 82, .inl (gC G 3, 14, .inr (.inl (μ.2.1 (lHe 0 3))))) := rfl
theorem w_83 (G : Gx) (μ : Mem) (dy : Nat → Nat) : (wsOf G μ dy)[83]? = some (gA G 83, .inl (gC G 0, 14, .inl (μ.1 (vHe 0 4)))) := rfl
theorem w_84 (G : Gx) (μ : Mem) (dy : Nat → Nat) : (wsOf G μ dy)[84]? = some (gA G 84, .inl (gC G 0, 14, .inl (μ.1 (vHe 0 5)))) := rfl
theorem w_85 (G : Gx) (μ : Mem) (dy : Nat → Nat) : (wsOf G μ dy)[85]? = some (gA G 85, .inr (1, [.ref (gA G 4), .ref (gA G 86), .ref (gA G 87), .ref (gA G 88), .ref (gA G 89), .long (μ.2.1 (lHe 1 0) 0), .long (μ.2.1 (lHe 1 1) 0), .int (μ.1 (vHe 1 0) 0), .ref (dy 1), .int (μ.1 (vHe 1 1) 0)])) := rfl
theorem w_86 (G : Gx) (μ : Mem) (dy : Nat → Nat) : (wsOf G μ dy)[86]? = some (gA G 86, .inl (gC G 3, 14, .inr (.inl (μ.2.1 (lHe 1 2))))) := rfl
theorem w_87 (G : Gx) (μ : Mem) (dy : Nat → Nat) : (wsOf G μ dy)[87]? = some (gA G 87, .inl (gC G 3, 14, .inr (.inl (μ.2.1 (lHe 1 3))))) := rfl
theorem w_88 (G : Gx) (μ : Mem) (dy : Nat → Nat) : (wsOf G μ dy)[88]? = some (gA G 88, .inl (gC G 0, 14, .inl (μ.1 (vHe 1 4)))) := rfl
theorem w_89 (G : Gx) (μ : Mem) (dy : Nat → Nat) : (wsOf G μ dy)[89]? = some (gA G 89, .inl (gC G 0, 14, .inl (μ.1 (vHe 1 5)))) := rfl
theorem w_90 (G : Gx) (μ : Mem) (dy : Nat → Nat) : (wsOf G μ dy)[90]? = some (gA G 90, .inr (2, [.ref (dy 2), .int (μ.1 v_me_size 0), .int (μ.1 v_me_stamp 0)])) := rfl
theorem w_91 (G : Gx) (μ : Mem) (dy : Nat → Nat) : (wsOf G μ dy)[91]? = some (gA G 91, .inr (3, [.ref (gA G 4), .ref (gA G 80), .ref (gA G 90), .ref (gA G 2), .int (μ.1 v_or_till 0), .int (μ.1 v_or_period 0), .int (μ.1 v_or_entry 0), .int (μ.1 v_or_least 0), .int (μ.1 v_or_always 0), .int (μ.1 v_or_ever 0)])) := rfl
theorem w_92 (G : Gx) (μ : Mem) (dy : Nat → Nat) : (wsOf G μ dy)[92]? = some (gA G 92, .inr (10, [.ref (gA G 4), .ref (gA G 80), .ref (gA G 90), .ref (gA G 2), .int (μ.1 v_ta_wanted 0), .int (μ.1 v_ta_sum 0), .int (μ.1 v_ta_soonest 0)])) := rfl
theorem w_93 (G : Gx) (μ : Mem) (dy : Nat → Nat) : (wsOf G μ dy)[93]? = some (gA G 93, .inr (7, [.ref (gA G 4), .ref (gA G 80), .ref (gA G 90), .ref (gA G 66), .ref (gA G 2), .ref (gA G 94), .ref (gA G 109)])) := rfl
theorem w_94 (G : Gx) (μ : Mem) (dy : Nat → Nat) : (wsOf G μ dy)[94]? = some (gA G 94, .inl (gC G 6, 14, .inr (.inr (.inr (.inr (fun i => if i < 14 then some (gA G (95 + i)) else none)))))) := rfl
theorem w_95 (G : Gx) (μ : Mem) (dy : Nat → Nat) : (wsOf G μ dy)[95]? = some (gA G 95, .inl (gC G 0, 7, .inl (μ.1 (vFa 0)))) := rfl
theorem w_96 (G : Gx) (μ : Mem) (dy : Nat → Nat) : (wsOf G μ dy)[96]? = some (gA G 96, .inl (gC G 0, 7, .inl (μ.1 (vFa 1)))) := rfl
theorem w_97 (G : Gx) (μ : Mem) (dy : Nat → Nat) : (wsOf G μ dy)[97]? = some (gA G 97, .inl (gC G 0, 7, .inl (μ.1 (vFa 2)))) := rfl
theorem w_98 (G : Gx) (μ : Mem) (dy : Nat → Nat) : (wsOf G μ dy)[98]? = some (gA G 98, .inl (gC G 0, 7, .inl (μ.1 (vFa 3)))) := rfl
theorem w_99 (G : Gx) (μ : Mem) (dy : Nat → Nat) : (wsOf G μ dy)[99]? = some (gA G 99, .inl (gC G 0, 7, .inl (μ.1 (vFa 4)))) := rfl
theorem w_100 (G : Gx) (μ : Mem) (dy : Nat → Nat) : (wsOf G μ dy)[100]? = some (gA G 100, .inl (gC G 0, 7, .inl (μ.1 (vFa 5)))) := rfl
theorem w_101 (G : Gx) (μ : Mem) (dy : Nat → Nat) : (wsOf G μ dy)[101]? = some (gA G 101, .inl (gC G 0, 7, .inl (μ.1 (vFa 6)))) := rfl
theorem w_102 (G : Gx) (μ : Mem) (dy : Nat → Nat) : (wsOf G μ dy)[102]? = some (gA G 102, .inl (gC G 0, 7, .inl (μ.1 (vFa 7)))) := rfl
theorem w_103 (G : Gx) (μ : Mem) (dy : Nat → Nat) : (wsOf G μ dy)[103]? = some (gA G 103, .inl (gC G 0, 7, .inl (μ.1 (vFa 8)))) := rfl
theorem w_104 (G : Gx) (μ : Mem) (dy : Nat → Nat) : (wsOf G μ dy)[104]? = some (gA G 104, .inl (gC G 0, 7, .inl (μ.1 (vFa 9)))) := rfl
theorem w_105 (G : Gx) (μ : Mem) (dy : Nat → Nat) : (wsOf G μ dy)[105]? = some (gA G 105, .inl (gC G 0, 7, .inl (μ.1 (vFa 10)))) := rfl
theorem w_106 (G : Gx) (μ : Mem) (dy : Nat → Nat) : (wsOf G μ dy)[106]? = some (gA G 106, .inl (gC G 0, 7, .inl (μ.1 (vFa 11)))) := rfl
theorem w_107 (G : Gx) (μ : Mem) (dy : Nat → Nat) : (wsOf G μ dy)[107]? = some (gA G 107, .inl (gC G 0, 7, .inl (μ.1 (vFa 12)))) := rfl
theorem w_108 (G : Gx) (μ : Mem) (dy : Nat → Nat) : (wsOf G μ dy)[108]? = some (gA G 108, .inl (gC G 0, 7, .inl (μ.1 (vFa 13)))) := rfl
theorem w_109 (G : Gx) (μ : Mem) (dy : Nat → Nat) : (wsOf G μ dy)[109]? = some (gA G 109, .inl (gC G 0, 2, .inl (μ.1 v_sh_paid))) := rfl
theorem w_110 (G : Gx) (μ : Mem) (dy : Nat → Nat) : (wsOf G μ dy)[110]? = some (gA G 110, .inr (0, [.ref (gA G 4), .ref (gA G 2), .ref (gA G 85)])) := rfl
theorem w_111 (G : Gx) (μ : Mem) (dy : Nat → Nat) : (wsOf G μ dy)[111]? = some (gA G 111, .inr (12, [.int (μ.1 v_m_people 0), .ref (gA G 112), .ref (gA G 113), .int (μ.1 v_m_firm 0), .ref (gA G 114), .ref (gA G 115), .int (μ.1 v_m_days 0), .ref (gA G 116), .int (μ.1 v_m_typed 0), .ref (gA G 117), .int (μ.1 v_m_rowMany 0), .int (μ.1 v_m_thrown 0), mRd (gA G) (μ.1 v_m_read 0), .int (μ.1 v_m_size 0), .int (μ.1 v_m_top 0), .int (μ.1 v_m_at 0), .int (μ.1 v_m_wrong 0), .ref (gA G 118), .ref (gA G 119), .ref (gA G 120), .int (μ.1 v_m_question 0), .int (μ.1 v_m_restIn 0), .int (μ.1 v_m_restRound 0), .int (μ.1 v_m_restState 0), .ref (gA G 121), .ref (gA G 122), .ref (gA G 123), .ref (gA G 124), .ref (gA G 125), .ref (gA G 126), .ref (gA G 129), .int (μ.1 v_m_askedShop 0), .int (μ.1 v_m_askedOne 0), .int (μ.1 v_m_askedState 0), .ref (gA G 130), .int (μ.1 v_m_peopleTold 0), .ref (gA G 131), .ref (gA G 132), .ref (gA G 133)])) := rfl
theorem w_112 (G : Gx) (μ : Mem) (dy : Nat → Nat) : (wsOf G μ dy)[112]? = some (gA G 112, .inl (gC G 0, 14, .inl (μ.1 v_m_need))) := rfl
theorem w_113 (G : Gx) (μ : Mem) (dy : Nat → Nat) : (wsOf G μ dy)[113]? = some (gA G 113, .inl (gC G 0, 14, .inl (μ.1 v_m_price))) := rfl
theorem w_114 (G : Gx) (μ : Mem) (dy : Nat → Nat) : (wsOf G μ dy)[114]? = some (gA G 114, .inl (gC G 0, 196, .inl (μ.1 v_m_loud))) := rfl
theorem w_115 (G : Gx) (μ : Mem) (dy : Nat → Nat) : (wsOf G μ dy)[115]? = some (gA G 115, .inl (gC G 0, 201, .inl (μ.1 v_m_states))) := rfl
theorem w_116 (G : Gx) (μ : Mem) (dy : Nat → Nat) : (wsOf G μ dy)[116]? = some (gA G 116, .inl (gC G 1, 80, .inl (μ.1 v_m_text))) := rfl
theorem w_117 (G : Gx) (μ : Mem) (dy : Nat → Nat) : (wsOf G μ dy)[117]? = some (gA G 117, .inl (gC G 3, 210, .inr (.inl (μ.2.1 l_m_row)))) := rfl
theorem w_118 (G : Gx) (μ : Mem) (dy : Nat → Nat) : (wsOf G μ dy)[118]? = some (gA G 118, .inl (gC G 0, 320, .inl (μ.1 v_m_line))) := rfl
theorem w_119 (G : Gx) (μ : Mem) (dy : Nat → Nat) : (wsOf G μ dy)[119]? = some (gA G 119, .inl (gC G 0, 16384, .inl (μ.1 v_m_cameOn))) := rfl
theorem w_120 (G : Gx) (μ : Mem) (dy : Nat → Nat) : (wsOf G μ dy)[120]? = some (gA G 120, .inl (gC G 0, 16384, .inl (μ.1 v_m_cameIn))) := rfl
theorem w_121 (G : Gx) (μ : Mem) (dy : Nat → Nat) : (wsOf G μ dy)[121]? = some (gA G 121, .inl (gC G 0, 14, .inl (μ.1 v_m_needWas))) := rfl
theorem w_122 (G : Gx) (μ : Mem) (dy : Nat → Nat) : (wsOf G μ dy)[122]? = some (gA G 122, .inl (gC G 0, 14, .inl (μ.1 v_m_far))) := rfl
theorem w_123 (G : Gx) (μ : Mem) (dy : Nat → Nat) : (wsOf G μ dy)[123]? = some (gA G 123, .inl (gC G 2, 16384, .inl (μ.1 v_m_isLast))) := rfl
theorem w_124 (G : Gx) (μ : Mem) (dy : Nat → Nat) : (wsOf G μ dy)[124]? = some (gA G 124, .inl (gC G 0, 114688, .inl (μ.1 v_m_sums))) := rfl
theorem w_125 (G : Gx) (μ : Mem) (dy : Nat → Nat) : (wsOf G μ dy)[125]? = some (gA G 125, .inl (gC G 0, 114688, .inl (μ.1 v_m_sumsIn))) := rfl
theorem w_126 (G : Gx) (μ : Mem) (dy : Nat → Nat) : (wsOf G μ dy)[126]? = some (gA G 126, .inl (gC G 7, 2, .inr (.inr (.inr (.inr (fun i => if i < 2 then some (gA G (127 + i)) else none)))))) := rfl
theorem w_127 (G : Gx) (μ : Mem) (dy : Nat → Nat) : (wsOf G μ dy)[127]? = some (gA G 127, .inl (gC G 1, 40, .inl (μ.1 v_m_rules0))) := rfl
theorem w_128 (G : Gx) (μ : Mem) (dy : Nat → Nat) : (wsOf G μ dy)[128]? = some (gA G 128, .inl (gC G 1, 40, .inl (μ.1 v_m_rules1))) := rfl
theorem w_129 (G : Gx) (μ : Mem) (dy : Nat → Nat) : (wsOf G μ dy)[129]? = some (gA G 129, .inl (gC G 0, 2, .inl (μ.1 v_m_ruleSize))) := rfl
theorem w_130 (G : Gx) (μ : Mem) (dy : Nat → Nat) : (wsOf G μ dy)[130]? = some (gA G 130, .inl (gC G 0, 4, .inl (μ.1 v_m_loudWas))) := rfl
theorem w_131 (G : Gx) (μ : Mem) (dy : Nat → Nat) : (wsOf G μ dy)[131]? = some (gA G 131, .inl (gC G 0, 824, .inl (μ.1 v_m_kept))) := rfl
theorem w_132 (G : Gx) (μ : Mem) (dy : Nat → Nat) : (wsOf G μ dy)[132]? = some (gA G 132, .inl (gC G 2, 2, .inl (μ.1 v_m_isKept))) := rfl
theorem w_133 (G : Gx) (μ : Mem) (dy : Nat → Nat) : (wsOf G μ dy)[133]? = some (gA G 133, .inl (gC G 0, 2, .inl (μ.1 v_m_keptTold))) := rfl
theorem w_134 (G : Gx) (μ : Mem) (dy : Nat → Nat) : (wsOf G μ dy)[134]? = some (gA G 134, .inl (gC G 3, 1, .inr (.inl (μ.2.1 l_out)))) := rfl
theorem w_135 (G : Gx) (μ : Mem) (dy : Nat → Nat) : (wsOf G μ dy)[135]? = some (dy 0, .inl (gC G 0, (μ.1 (vHe 0 2) 0).toNatClampNeg, .inl (μ.1 (vHe 0 3)))) := rfl
theorem w_136 (G : Gx) (μ : Mem) (dy : Nat → Nat) : (wsOf G μ dy)[136]? = some (dy 1, .inl (gC G 0, (μ.1 (vHe 1 2) 0).toNatClampNeg, .inl (μ.1 (vHe 1 3)))) := rfl
theorem w_137 (G : Gx) (μ : Mem) (dy : Nat → Nat) : (wsOf G μ dy)[137]? = some (dy 2, .inl (gC G 0, (μ.1 v_me_cellsLen 0).toNatClampNeg, .inl (μ.1 v_me_cells))) := rfl
