/-! THE LAYOUT: the objects of the class (C) and of the reference (M), their arrays. By program. -/
def obsC : List LO := [(6, 0, [1, 1]), (21, 1, [1, 1, 0, 0, 0]), (22, 1, [1, 1, 0, 0, 0]), (23, 1, [1, 1, 0, 0, 0]), (31, 1, [1, 1, 0, 0, 0]), (32, 1, [1, 1, 0, 0, 0]), (33, 1, [1, 1, 0, 0, 0]), (3, 2, [0, 4, 0, 0, 1, 1, 1]), (9, 3, [0, 1, 1, 1, 1]), (8, 4, [1, 0]), (7, 5, [0, 0, 0, 0, 1, 1, 1, 0, 0, 0]), (10, 6, [1]), (11, 6, [1]), (2, 7, [0, 4, 0, 0, 1]), (4, 8, [0, 0, 0, 0, 1, 1, 1, 1, 1, 1, 1, 1, 1]), (5, 8, [0, 0, 0, 0, 1, 1, 1, 1, 1, 1, 1, 1, 1]), (1, 9, [0, 1, 1, 1, 1, 1]), (20, 10, [0, 0, 0, 0, 0, 0, 0, 0, 1, 1, 1, 1, 1, 1, 1, 1, 1, 24, 25, 26]), (30, 10, [0, 0, 0, 0, 0, 0, 0, 0, 1, 1, 1, 1, 1, 1, 1, 1, 1, 34, 35, 36]), (0, 11, [4, 5, 6, 7, 8, 9, 10, 11, 12, 13, 14, 2, 2, 0, 0, 0, 0])]
def arsC : List LA := [(6, 0, 0, 8), (6, 1, 0, 7), (21, 0, 0, 400), (21, 1, 0, 64), (22, 0, 0, 400), (22, 1, 0, 64), (23, 0, 0, 400), (23, 1, 0, 64), (31, 0, 0, 400), (31, 1, 0, 64), (32, 0, 0, 400), (32, 1, 0, 64), (33, 0, 0, 400), (33, 1, 0, 64), (3, 4, 2, 4), (3, 5, 2, 7), (3, 6, 2, 8), (9, 1, 0, 20), (9, 2, 0, 20), (9, 3, 0, 20), (9, 4, 0, 8), (8, 0, 0, 7), (7, 4, 0, 4), (7, 5, 0, 4), (7, 6, 0, 4), (10, 0, 0, 1480), (11, 0, 0, 111), (2, 4, 0, 4), (4, 4, 0, 4), (4, 5, 0, 7), (4, 6, 0, 7), (4, 7, 0, 7), (4, 8, 0, 8), (4, 9, 0, 4), (4, 10, 0, 4), (4, 11, 0, 4), (4, 12, 0, 8), (5, 4, 0, 4), (5, 5, 0, 7), (5, 6, 0, 7), (5, 7, 0, 7), (5, 8, 0, 8), (5, 9, 0, 4), (5, 10, 0, 4), (5, 11, 0, 4), (5, 12, 0, 8), (1, 1, 1, 2000), (1, 2, 2, 22), (1, 3, 0, 401), (1, 4, 0, 401), (1, 5, 2, 401), (20, 8, 0, 4), (20, 9, 0, 4), (20, 10, 0, 7), (20, 11, 0, 7), (20, 12, 0, 7), (20, 13, 0, 8), (20, 14, 0, 8), (20, 15, 0, 12), (20, 16, 0, 12), (30, 8, 0, 4), (30, 9, 0, 4), (30, 10, 0, 7), (30, 11, 0, 7), (30, 12, 0, 7), (30, 13, 0, 8), (30, 14, 0, 8), (30, 15, 0, 12), (30, 16, 0, 12)]
def IsC (V : WV) : Prop := V.2.2.2.1 = obsC ∧ V.2.2.2.2 = arsC ∧ V.2.1.2.1 = 7
theorem IsC.ok {V : WV} (h : IsC V) : VOk V := by unfold VOk; rw [h.1, h.2.1]; decide +kernel
theorem ob_Dy {V : WV} (h : IsC V) : (6, 0, ([1, 1] : List Nat)) ∈ V.2.2.2.1 := by rw [h.1]; decide +kernel
theorem ar_Dy_0 {V : WV} (h : IsC V) : (6, 0, 0, 8) ∈ V.2.2.2.2 := by rw [h.2.1]; decide +kernel
theorem ar_Dy_1 {V : WV} (h : IsC V) : (6, 1, 0, 7) ∈ V.2.2.2.2 := by rw [h.2.1]; decide +kernel
def isLw (lw : Nat) : Prop := lw = 21 ∨ lw = 22 ∨ lw = 23 ∨ lw = 31 ∨ lw = 32 ∨ lw = 33
theorem ob_Lw {V : WV} (h : IsC V) {lw : Nat} (q : isLw lw) : (lw, 1, ([1, 1, 0, 0, 0] : List Nat)) ∈ V.2.2.2.1 := by rw [h.1]; rcases q with rfl | rfl | rfl | rfl | rfl | rfl <;> decide +kernel
theorem ar_Lw_0 {V : WV} (h : IsC V) {lw : Nat} (q : isLw lw) : (lw, 0, 0, 400) ∈ V.2.2.2.2 := by rw [h.2.1]; rcases q with rfl | rfl | rfl | rfl | rfl | rfl <;> decide +kernel
theorem ar_Lw_1 {V : WV} (h : IsC V) {lw : Nat} (q : isLw lw) : (lw, 1, 0, 64) ∈ V.2.2.2.2 := by rw [h.2.1]; rcases q with rfl | rfl | rfl | rfl | rfl | rfl <;> decide +kernel
theorem ob_Mn {V : WV} (h : IsC V) : (3, 2, ([0, 4, 0, 0, 1, 1, 1] : List Nat)) ∈ V.2.2.2.1 := by rw [h.1]; decide +kernel
theorem ar_Mn_4 {V : WV} (h : IsC V) : (3, 4, 2, 4) ∈ V.2.2.2.2 := by rw [h.2.1]; decide +kernel
theorem ar_Mn_5 {V : WV} (h : IsC V) : (3, 5, 2, 7) ∈ V.2.2.2.2 := by rw [h.2.1]; decide +kernel
theorem ar_Mn_6 {V : WV} (h : IsC V) : (3, 6, 2, 8) ∈ V.2.2.2.2 := by rw [h.2.1]; decide +kernel
theorem ob_Nt {V : WV} (h : IsC V) : (9, 3, ([0, 1, 1, 1, 1] : List Nat)) ∈ V.2.2.2.1 := by rw [h.1]; decide +kernel
theorem ar_Nt_1 {V : WV} (h : IsC V) : (9, 1, 0, 20) ∈ V.2.2.2.2 := by rw [h.2.1]; decide +kernel
theorem ar_Nt_2 {V : WV} (h : IsC V) : (9, 2, 0, 20) ∈ V.2.2.2.2 := by rw [h.2.1]; decide +kernel
theorem ar_Nt_3 {V : WV} (h : IsC V) : (9, 3, 0, 20) ∈ V.2.2.2.2 := by rw [h.2.1]; decide +kernel
theorem ar_Nt_4 {V : WV} (h : IsC V) : (9, 4, 0, 8) ∈ V.2.2.2.2 := by rw [h.2.1]; decide +kernel
theorem ob_Pe {V : WV} (h : IsC V) : (8, 4, ([1, 0] : List Nat)) ∈ V.2.2.2.1 := by rw [h.1]; decide +kernel
theorem ar_Pe_0 {V : WV} (h : IsC V) : (8, 0, 0, 7) ∈ V.2.2.2.2 := by rw [h.2.1]; decide +kernel
theorem ob_Rn {V : WV} (h : IsC V) : (7, 5, ([0, 0, 0, 0, 1, 1, 1, 0, 0, 0] : List Nat)) ∈ V.2.2.2.1 := by rw [h.1]; decide +kernel
theorem ar_Rn_4 {V : WV} (h : IsC V) : (7, 4, 0, 4) ∈ V.2.2.2.2 := by rw [h.2.1]; decide +kernel
theorem ar_Rn_5 {V : WV} (h : IsC V) : (7, 5, 0, 4) ∈ V.2.2.2.2 := by rw [h.2.1]; decide +kernel
theorem ar_Rn_6 {V : WV} (h : IsC V) : (7, 6, 0, 4) ∈ V.2.2.2.2 := by rw [h.2.1]; decide +kernel
def isRw (rw : Nat) : Prop := rw = 10 ∨ rw = 11
def rwLen (rw : Nat) : Nat := if rw = 10 then 1480 else 111
theorem ob_Rw {V : WV} (h : IsC V) {rw : Nat} (q : isRw rw) : (rw, 6, ([1] : List Nat)) ∈ V.2.2.2.1 := by rw [h.1]; rcases q with rfl | rfl <;> decide +kernel
theorem ar_Rw_0 {V : WV} (h : IsC V) {rw : Nat} (q : isRw rw) : (rw, 0, 0, rwLen rw) ∈ V.2.2.2.2 := by rw [h.2.1]; rcases q with rfl | rfl <;> decide +kernel
theorem ob_Sh {V : WV} (h : IsC V) : (2, 7, ([0, 4, 0, 0, 1] : List Nat)) ∈ V.2.2.2.1 := by rw [h.1]; decide +kernel
theorem ar_Sh_4 {V : WV} (h : IsC V) : (2, 4, 0, 4) ∈ V.2.2.2.2 := by rw [h.2.1]; decide +kernel
def isSt (st : Nat) : Prop := st = 4 ∨ st = 5
theorem ob_St {V : WV} (h : IsC V) {st : Nat} (q : isSt st) : (st, 8, ([0, 0, 0, 0, 1, 1, 1, 1, 1, 1, 1, 1, 1] : List Nat)) ∈ V.2.2.2.1 := by rw [h.1]; rcases q with rfl | rfl <;> decide +kernel
theorem ar_St_4 {V : WV} (h : IsC V) {st : Nat} (q : isSt st) : (st, 4, 0, 4) ∈ V.2.2.2.2 := by rw [h.2.1]; rcases q with rfl | rfl <;> decide +kernel
theorem ar_St_5 {V : WV} (h : IsC V) {st : Nat} (q : isSt st) : (st, 5, 0, 7) ∈ V.2.2.2.2 := by rw [h.2.1]; rcases q with rfl | rfl <;> decide +kernel
theorem ar_St_6 {V : WV} (h : IsC V) {st : Nat} (q : isSt st) : (st, 6, 0, 7) ∈ V.2.2.2.2 := by rw [h.2.1]; rcases q with rfl | rfl <;> decide +kernel
theorem ar_St_7 {V : WV} (h : IsC V) {st : Nat} (q : isSt st) : (st, 7, 0, 7) ∈ V.2.2.2.2 := by rw [h.2.1]; rcases q with rfl | rfl <;> decide +kernel
theorem ar_St_8 {V : WV} (h : IsC V) {st : Nat} (q : isSt st) : (st, 8, 0, 8) ∈ V.2.2.2.2 := by rw [h.2.1]; rcases q with rfl | rfl <;> decide +kernel
theorem ar_St_9 {V : WV} (h : IsC V) {st : Nat} (q : isSt st) : (st, 9, 0, 4) ∈ V.2.2.2.2 := by rw [h.2.1]; rcases q with rfl | rfl <;> decide +kernel
theorem ar_St_10 {V : WV} (h : IsC V) {st : Nat} (q : isSt st) : (st, 10, 0, 4) ∈ V.2.2.2.2 := by rw [h.2.1]; rcases q with rfl | rfl <;> decide +kernel
theorem ar_St_11 {V : WV} (h : IsC V) {st : Nat} (q : isSt st) : (st, 11, 0, 4) ∈ V.2.2.2.2 := by rw [h.2.1]; rcases q with rfl | rfl <;> decide +kernel
theorem ar_St_12 {V : WV} (h : IsC V) {st : Nat} (q : isSt st) : (st, 12, 0, 8) ∈ V.2.2.2.2 := by rw [h.2.1]; rcases q with rfl | rfl <;> decide +kernel
theorem ob_Tp {V : WV} (h : IsC V) : (1, 9, ([0, 1, 1, 1, 1, 1] : List Nat)) ∈ V.2.2.2.1 := by rw [h.1]; decide +kernel
theorem ar_Tp_1 {V : WV} (h : IsC V) : (1, 1, 1, 2000) ∈ V.2.2.2.2 := by rw [h.2.1]; decide +kernel
theorem ar_Tp_2 {V : WV} (h : IsC V) : (1, 2, 2, 22) ∈ V.2.2.2.2 := by rw [h.2.1]; decide +kernel
theorem ar_Tp_3 {V : WV} (h : IsC V) : (1, 3, 0, 401) ∈ V.2.2.2.2 := by rw [h.2.1]; decide +kernel
theorem ar_Tp_4 {V : WV} (h : IsC V) : (1, 4, 0, 401) ∈ V.2.2.2.2 := by rw [h.2.1]; decide +kernel
theorem ar_Tp_5 {V : WV} (h : IsC V) : (1, 5, 2, 401) ∈ V.2.2.2.2 := by rw [h.2.1]; decide +kernel
def isTx (tx : Nat) : Prop := tx = 20 ∨ tx = 30
theorem ob_Tx {V : WV} (h : IsC V) {tx : Nat} (q : isTx tx) : (tx, 10, ([0, 0, 0, 0, 0, 0, 0, 0, 1, 1, 1, 1, 1, 1, 1, 1, 1, tx + 4, tx + 5, tx + 6] : List Nat)) ∈ V.2.2.2.1 := by rw [h.1]; rcases q with rfl | rfl <;> decide +kernel
theorem ar_Tx_8 {V : WV} (h : IsC V) {tx : Nat} (q : isTx tx) : (tx, 8, 0, 4) ∈ V.2.2.2.2 := by rw [h.2.1]; rcases q with rfl | rfl <;> decide +kernel
theorem ar_Tx_9 {V : WV} (h : IsC V) {tx : Nat} (q : isTx tx) : (tx, 9, 0, 4) ∈ V.2.2.2.2 := by rw [h.2.1]; rcases q with rfl | rfl <;> decide +kernel
theorem ar_Tx_10 {V : WV} (h : IsC V) {tx : Nat} (q : isTx tx) : (tx, 10, 0, 7) ∈ V.2.2.2.2 := by rw [h.2.1]; rcases q with rfl | rfl <;> decide +kernel
theorem ar_Tx_11 {V : WV} (h : IsC V) {tx : Nat} (q : isTx tx) : (tx, 11, 0, 7) ∈ V.2.2.2.2 := by rw [h.2.1]; rcases q with rfl | rfl <;> decide +kernel
theorem ar_Tx_12 {V : WV} (h : IsC V) {tx : Nat} (q : isTx tx) : (tx, 12, 0, 7) ∈ V.2.2.2.2 := by rw [h.2.1]; rcases q with rfl | rfl <;> decide +kernel
theorem ar_Tx_13 {V : WV} (h : IsC V) {tx : Nat} (q : isTx tx) : (tx, 13, 0, 8) ∈ V.2.2.2.2 := by rw [h.2.1]; rcases q with rfl | rfl <;> decide +kernel
theorem ar_Tx_14 {V : WV} (h : IsC V) {tx : Nat} (q : isTx tx) : (tx, 14, 0, 8) ∈ V.2.2.2.2 := by rw [h.2.1]; rcases q with rfl | rfl <;> decide +kernel
theorem ar_Tx_15 {V : WV} (h : IsC V) {tx : Nat} (q : isTx tx) : (tx, 15, 0, 12) ∈ V.2.2.2.2 := by rw [h.2.1]; rcases q with rfl | rfl <;> decide +kernel
theorem ar_Tx_16 {V : WV} (h : IsC V) {tx : Nat} (q : isTx tx) : (tx, 16, 0, 12) ∈ V.2.2.2.2 := by rw [h.2.1]; rcases q with rfl | rfl <;> decide +kernel
theorem ob_Co {V : WV} (h : IsC V) : (0, 11, ([4, 5, 6, 7, 8, 9, 10, 11, 12, 13, 14, 2, 2, 0, 0, 0, 0] : List Nat)) ∈ V.2.2.2.1 := by rw [h.1]; decide +kernel
def obsM : List LO := [(0, 12, [0, 1, 0, 1, 0, 1, 1, 1, 1, 1, 0, 0, 0, 0, 0, 0, 0, 0, 0, 0, 0, 1, 1, 1, 1, 1, 1, 1, 1, 1, 1, 1, 1, 1, 1, 1, 1, 1, 1, 1, 1, 1, 0, 1, 1, 1, 1, 1, 0, 1, 1, 1, 0, 1, 1, 0, 1, 1, 0, 1, 0, 1, 0, 0, 0, 0, 1, 0, 0, 1, 1, 1, 1, 1])]
def arsM : List LA := [(0, 1, 1, 2000), (0, 3, 1, 2000), (0, 5, 0, 403), (0, 6, 0, 403), (0, 7, 0, 403), (0, 8, 2, 403), (0, 9, 2, 22), (0, 21, 2, 19), (0, 22, 0, 19), (0, 23, 0, 19), (0, 24, 0, 2), (0, 25, 0, 8), (0, 26, 0, 8), (0, 27, 0, 2), (0, 28, 0, 14), (0, 29, 0, 14), (0, 30, 0, 2), (0, 31, 0, 16), (0, 32, 3, 16), (0, 33, 0, 16), (0, 34, 0, 2), (0, 35, 0, 24), (0, 36, 0, 24), (0, 37, 0, 2), (0, 38, 0, 2), (0, 39, 0, 2), (0, 40, 0, 6), (0, 41, 0, 6), (0, 43, 3, 260), (0, 44, 0, 260), (0, 45, 0, 260), (0, 46, 0, 260), (0, 47, 0, 260), (0, 49, 0, 840), (0, 50, 0, 840), (0, 51, 0, 64), (0, 53, 0, 8), (0, 54, 0, 400), (0, 56, 0, 40), (0, 57, 0, 40), (0, 59, 0, 7), (0, 61, 0, 1600), (0, 66, 0, 7), (0, 69, 0, 20), (0, 70, 0, 20), (0, 71, 0, 20), (0, 72, 3, 3), (0, 73, 0, 120)]
def IsM (V : WV) : Prop := V.2.2.2.1 = obsM ∧ V.2.2.2.2 = arsM ∧ True
theorem IsM.ok {V : WV} (h : IsM V) : VOk V := by unfold VOk; rw [h.1, h.2.1]; decide +kernel
theorem ob_Mo {V : WV} (h : IsM V) : (0, 12, ([0, 1, 0, 1, 0, 1, 1, 1, 1, 1, 0, 0, 0, 0, 0, 0, 0, 0, 0, 0, 0, 1, 1, 1, 1, 1, 1, 1, 1, 1, 1, 1, 1, 1, 1, 1, 1, 1, 1, 1, 1, 1, 0, 1, 1, 1, 1, 1, 0, 1, 1, 1, 0, 1, 1, 0, 1, 1, 0, 1, 0, 1, 0, 0, 0, 0, 1, 0, 0, 1, 1, 1, 1, 1] : List Nat)) ∈ V.2.2.2.1 := by rw [h.1]; decide +kernel
theorem ar_Mo_1 {V : WV} (h : IsM V) : (0, 1, 1, 2000) ∈ V.2.2.2.2 := by rw [h.2.1]; decide +kernel
theorem ar_Mo_3 {V : WV} (h : IsM V) : (0, 3, 1, 2000) ∈ V.2.2.2.2 := by rw [h.2.1]; decide +kernel
theorem ar_Mo_5 {V : WV} (h : IsM V) : (0, 5, 0, 403) ∈ V.2.2.2.2 := by rw [h.2.1]; decide +kernel
theorem ar_Mo_6 {V : WV} (h : IsM V) : (0, 6, 0, 403) ∈ V.2.2.2.2 := by rw [h.2.1]; decide +kernel
theorem ar_Mo_7 {V : WV} (h : IsM V) : (0, 7, 0, 403) ∈ V.2.2.2.2 := by rw [h.2.1]; decide +kernel
theorem ar_Mo_8 {V : WV} (h : IsM V) : (0, 8, 2, 403) ∈ V.2.2.2.2 := by rw [h.2.1]; decide +kernel
theorem ar_Mo_9 {V : WV} (h : IsM V) : (0, 9, 2, 22) ∈ V.2.2.2.2 := by rw [h.2.1]; decide +kernel
theorem ar_Mo_21 {V : WV} (h : IsM V) : (0, 21, 2, 19) ∈ V.2.2.2.2 := by rw [h.2.1]; decide +kernel
theorem ar_Mo_22 {V : WV} (h : IsM V) : (0, 22, 0, 19) ∈ V.2.2.2.2 := by rw [h.2.1]; decide +kernel
theorem ar_Mo_23 {V : WV} (h : IsM V) : (0, 23, 0, 19) ∈ V.2.2.2.2 := by rw [h.2.1]; decide +kernel
theorem ar_Mo_24 {V : WV} (h : IsM V) : (0, 24, 0, 2) ∈ V.2.2.2.2 := by rw [h.2.1]; decide +kernel
theorem ar_Mo_25 {V : WV} (h : IsM V) : (0, 25, 0, 8) ∈ V.2.2.2.2 := by rw [h.2.1]; decide +kernel
theorem ar_Mo_26 {V : WV} (h : IsM V) : (0, 26, 0, 8) ∈ V.2.2.2.2 := by rw [h.2.1]; decide +kernel
theorem ar_Mo_27 {V : WV} (h : IsM V) : (0, 27, 0, 2) ∈ V.2.2.2.2 := by rw [h.2.1]; decide +kernel
theorem ar_Mo_28 {V : WV} (h : IsM V) : (0, 28, 0, 14) ∈ V.2.2.2.2 := by rw [h.2.1]; decide +kernel
theorem ar_Mo_29 {V : WV} (h : IsM V) : (0, 29, 0, 14) ∈ V.2.2.2.2 := by rw [h.2.1]; decide +kernel
theorem ar_Mo_30 {V : WV} (h : IsM V) : (0, 30, 0, 2) ∈ V.2.2.2.2 := by rw [h.2.1]; decide +kernel
theorem ar_Mo_31 {V : WV} (h : IsM V) : (0, 31, 0, 16) ∈ V.2.2.2.2 := by rw [h.2.1]; decide +kernel
theorem ar_Mo_32 {V : WV} (h : IsM V) : (0, 32, 3, 16) ∈ V.2.2.2.2 := by rw [h.2.1]; decide +kernel
theorem ar_Mo_33 {V : WV} (h : IsM V) : (0, 33, 0, 16) ∈ V.2.2.2.2 := by rw [h.2.1]; decide +kernel
theorem ar_Mo_34 {V : WV} (h : IsM V) : (0, 34, 0, 2) ∈ V.2.2.2.2 := by rw [h.2.1]; decide +kernel
theorem ar_Mo_35 {V : WV} (h : IsM V) : (0, 35, 0, 24) ∈ V.2.2.2.2 := by rw [h.2.1]; decide +kernel
theorem ar_Mo_36 {V : WV} (h : IsM V) : (0, 36, 0, 24) ∈ V.2.2.2.2 := by rw [h.2.1]; decide +kernel
theorem ar_Mo_37 {V : WV} (h : IsM V) : (0, 37, 0, 2) ∈ V.2.2.2.2 := by rw [h.2.1]; decide +kernel
theorem ar_Mo_38 {V : WV} (h : IsM V) : (0, 38, 0, 2) ∈ V.2.2.2.2 := by rw [h.2.1]; decide +kernel
theorem ar_Mo_39 {V : WV} (h : IsM V) : (0, 39, 0, 2) ∈ V.2.2.2.2 := by rw [h.2.1]; decide +kernel
theorem ar_Mo_40 {V : WV} (h : IsM V) : (0, 40, 0, 6) ∈ V.2.2.2.2 := by rw [h.2.1]; decide +kernel
theorem ar_Mo_41 {V : WV} (h : IsM V) : (0, 41, 0, 6) ∈ V.2.2.2.2 := by rw [h.2.1]; decide +kernel
theorem ar_Mo_43 {V : WV} (h : IsM V) : (0, 43, 3, 260) ∈ V.2.2.2.2 := by rw [h.2.1]; decide +kernel
theorem ar_Mo_44 {V : WV} (h : IsM V) : (0, 44, 0, 260) ∈ V.2.2.2.2 := by rw [h.2.1]; decide +kernel
theorem ar_Mo_45 {V : WV} (h : IsM V) : (0, 45, 0, 260) ∈ V.2.2.2.2 := by rw [h.2.1]; decide +kernel
theorem ar_Mo_46 {V : WV} (h : IsM V) : (0, 46, 0, 260) ∈ V.2.2.2.2 := by rw [h.2.1]; decide +kernel
theorem ar_Mo_47 {V : WV} (h : IsM V) : (0, 47, 0, 260) ∈ V.2.2.2.2 := by rw [h.2.1]; decide +kernel
theorem ar_Mo_49 {V : WV} (h : IsM V) : (0, 49, 0, 840) ∈ V.2.2.2.2 := by rw [h.2.1]; decide +kernel
theorem ar_Mo_50 {V : WV} (h : IsM V) : (0, 50, 0, 840) ∈ V.2.2.2.2 := by rw [h.2.1]; decide +kernel
theorem ar_Mo_51 {V : WV} (h : IsM V) : (0, 51, 0, 64) ∈ V.2.2.2.2 := by rw [h.2.1]; decide +kernel
theorem ar_Mo_53 {V : WV} (h : IsM V) : (0, 53, 0, 8) ∈ V.2.2.2.2 := by rw [h.2.1]; decide +kernel
theorem ar_Mo_54 {V : WV} (h : IsM V) : (0, 54, 0, 400) ∈ V.2.2.2.2 := by rw [h.2.1]; decide +kernel
theorem ar_Mo_56 {V : WV} (h : IsM V) : (0, 56, 0, 40) ∈ V.2.2.2.2 := by rw [h.2.1]; decide +kernel
theorem ar_Mo_57 {V : WV} (h : IsM V) : (0, 57, 0, 40) ∈ V.2.2.2.2 := by rw [h.2.1]; decide +kernel
theorem ar_Mo_59 {V : WV} (h : IsM V) : (0, 59, 0, 7) ∈ V.2.2.2.2 := by rw [h.2.1]; decide +kernel
theorem ar_Mo_61 {V : WV} (h : IsM V) : (0, 61, 0, 1600) ∈ V.2.2.2.2 := by rw [h.2.1]; decide +kernel
theorem ar_Mo_66 {V : WV} (h : IsM V) : (0, 66, 0, 7) ∈ V.2.2.2.2 := by rw [h.2.1]; decide +kernel
theorem ar_Mo_69 {V : WV} (h : IsM V) : (0, 69, 0, 20) ∈ V.2.2.2.2 := by rw [h.2.1]; decide +kernel
theorem ar_Mo_70 {V : WV} (h : IsM V) : (0, 70, 0, 20) ∈ V.2.2.2.2 := by rw [h.2.1]; decide +kernel
theorem ar_Mo_71 {V : WV} (h : IsM V) : (0, 71, 0, 20) ∈ V.2.2.2.2 := by rw [h.2.1]; decide +kernel
theorem ar_Mo_72 {V : WV} (h : IsM V) : (0, 72, 3, 3) ∈ V.2.2.2.2 := by rw [h.2.1]; decide +kernel
theorem ar_Mo_73 {V : WV} (h : IsM V) : (0, 73, 0, 120) ∈ V.2.2.2.2 := by rw [h.2.1]; decide +kernel
/-- any world with the String constants -/
def IsK (V : WV) : Prop := VOk V ∧ V.2.1.2.1 = 7
theorem IsK.ok {V : WV} (h : IsK V) : VOk V := h.1
theorem IsC.k {V : WV} (h : IsC V) : IsK V := ⟨h.ok, h.2.2⟩
theorem tx_1 {tx : Nat} (h : isTx tx) : isLw (tx + 1) := by rcases h with rfl | rfl <;> (unfold isLw; decide)
theorem tx_2 {tx : Nat} (h : isTx tx) : isLw (tx + 2) := by rcases h with rfl | rfl <;> (unfold isLw; decide)
theorem tx_3 {tx : Nat} (h : isTx tx) : isLw (tx + 3) := by rcases h with rfl | rfl <;> (unfold isLw; decide)
def isNm (f : Nat) : Prop := f = 4 ∨ f = 5 ∨ f = 6
def nmLen (f : Nat) : Nat := if f = 4 then 4 else if f = 5 then 7 else 8
theorem ar_nm {V : WV} (h : IsC V) {f : Nat} (q : isNm f) : (3, f, 2, nmLen f) ∈ V.2.2.2.2 := by rw [h.2.1]; rcases q with rfl | rfl | rfl <;> decide +kernel
/-- the text that a field names: one of the two -/
def gTx {α : Type} (v : Int32) (k : Option α) : Option α := if v = 20 ∨ v = 30 then k else none
theorem gTx_some {α : Type} {v : Int32} {k : Option α} {r : α} (h : gTx v k = some r) : isTx v.toNatClampNeg ∧ k = some r := by
  unfold gTx at h
  split at h
  · rename_i q
    rcases q with rfl | rfl
    · exact ⟨Or.inl (by decide), h⟩
    · exact ⟨Or.inr (by decide), h⟩
  · cases h
def letS {α β : Type} (a : α) (k : α → Option β) : Option β := k a
theorem g_leti {X : CX} {V : WV} {nL : Nat} {Q : State → Prop} {pc : Nat} {lv : List (Option Value)} {st : List Value} {S : Mem} {x : Int32} {β : Type} {k : Int32 → Option β} {z : β} (h : letS x k = some z) (kk : ∀ y : Int32, k y = some z → G X V nL Q pc lv (.int y :: st) S) : G X V nL Q pc lv (.int x :: st) S := kk x h
theorem g_letl {X : CX} {V : WV} {nL : Nat} {Q : State → Prop} {pc : Nat} {lv : List (Option Value)} {st : List Value} {S : Mem} {x : Int64} {β : Type} {k : Int64 → Option β} {z : β} (h : letS x k = some z) (kk : ∀ y : Int64, k y = some z → G X V nL Q pc lv (.long y :: st) S) : G X V nL Q pc lv (.long x :: st) S := kk x h
theorem g_letS {X : CX} {V : WV} {nL : Nat} {Q : State → Prop} {pc : Nat} {lv : List (Option Value)} {st : List Value} {S : Mem} {β : Type} {k : Mem → Option β} {z : β} (h : letS S k = some z) (kk : ∀ S1 : Mem, k S1 = some z → G X V nL Q pc lv st S1) : G X V nL Q pc lv st S := kk S h
def lvLe : List (Option Value) → List (Option Value) → Prop
  | [], _ => True
  | none :: t, _ :: u => lvLe t u
  | some v :: t, w :: u => w = some v ∧ lvLe t u
  | _ :: _, [] => False
theorem lvLe_get : ∀ (a b : List (Option Value)), lvLe a b → ∀ (i : Nat) (v : Value), a[i]? = some (some v) → b[i]? = some (some v)
  | [], _, _, i, v, h => by simp at h
  | none :: t, [], h0, i, v, h => by exact absurd h0 (by simp [lvLe])
  | some _ :: t, [], h0, i, v, h => by exact absurd h0 (by simp [lvLe])
  | none :: t, w :: u, h0, 0, v, h => by simp at h
  | none :: t, w :: u, h0, i + 1, v, h => by simpa using lvLe_get t u h0 i v (by simpa using h)
  | some x :: t, w :: u, h0, 0, v, h => by
    simp at h
    subst h
    simp [h0.1]
  | some x :: t, w :: u, h0, i + 1, v, h => by simpa using lvLe_get t u h0.2 i v (by simpa using h)
theorem g_le {X : CX} {V : WV} {nL : Nat} {Q : State → Prop} {pc : Nat} {lv : List (Option Value)} {st : List Value} {S : Mem} {lv2 : List (Option Value)} (h : lvLe lv2 lv) (k : G X V nL Q pc lv2 st S) : G X V nL Q pc lv st S := g_less (lvLe_get _ _ h) k
theorem g_iW {X : CX} {V : WV} {cc : ByteArray} {nL : Nat} {own : String} {fr lo : Nat} {pc : Nat} {lv : List (Option Value)} {S : Mem} {ty : FieldType} (hC : Ck X V cc nL own (some ty) fr lo) {v : Int32} {z : Int32 × Mem} (hn : narrow ty (.int v) = .int v) (hd : decode cc pc = .ok (.ireturn, 1)) (h : some (v, S) = some z) : G X V nL (QI X V z.1 z.2) pc lv [.int v] S := by
  obtain rfl := Option.some.inj h
  exact g_ireturn hC hn hd
theorem g_iN {X : CX} {V : WV} {cc : ByteArray} {nL : Nat} {own : String} {fr lo : Nat} {pc : Nat} {lv : List (Option Value)} {S : Mem} {ty : FieldType} (hC : Ck X V cc nL own (some ty) fr lo) {v : Int32} {z : Int32} (hn : narrow ty (.int v) = .int v) (hd : decode cc pc = .ok (.ireturn, 1)) (h : some v = some z) : G X V nL (QI X V z S) pc lv [.int v] S := by
  obtain rfl := Option.some.inj h
  exact g_ireturn hC hn hd
theorem nar_z {v : Int32} (h : v = 0 ∨ v = 1) : narrow .boolean (.int v) = .int v := by rcases h with rfl | rfl <;> rfl
theorem g_zW {X : CX} {V : WV} {cc : ByteArray} {nL : Nat} {own : String} {fr lo : Nat} {pc : Nat} {lv : List (Option Value)} {S : Mem} (hC : Ck X V cc nL own (some .boolean) fr lo) {v : Int32} {z : Int32 × Mem} (hd : decode cc pc = .ok (.ireturn, 1)) (h : gZ v (some (v, S)) = some z) : G X V nL (QI X V z.1 z.2) pc lv [.int v] S := g_iW hC (nar_z (gZ_some h).1) hd (gZ_some h).2
theorem g_zN {X : CX} {V : WV} {cc : ByteArray} {nL : Nat} {own : String} {fr lo : Nat} {pc : Nat} {lv : List (Option Value)} {S : Mem} (hC : Ck X V cc nL own (some .boolean) fr lo) {v : Int32} {z : Int32} (hd : decode cc pc = .ok (.ireturn, 1)) (h : gZ v (some v) = some z) : G X V nL (QI X V z S) pc lv [.int v] S := g_iN hC (nar_z (gZ_some h).1) hd (gZ_some h).2
theorem g_lW {X : CX} {V : WV} {cc : ByteArray} {nL : Nat} {own : String} {fr lo : Nat} {pc : Nat} {lv : List (Option Value)} {S : Mem} (hC : Ck X V cc nL own (some .long) fr lo) {v : Int64} {z : Int64 × Mem} (hd : decode cc pc = .ok (.lreturn, 1)) (h : some (v, S) = some z) : G X V nL (QL X V z.1 z.2) pc lv [.long v] S := by
  obtain rfl := Option.some.inj h
  exact g_lreturn hC hd
theorem g_lN {X : CX} {V : WV} {cc : ByteArray} {nL : Nat} {own : String} {fr lo : Nat} {pc : Nat} {lv : List (Option Value)} {S : Mem} (hC : Ck X V cc nL own (some .long) fr lo) {v : Int64} {z : Int64} (hd : decode cc pc = .ok (.lreturn, 1)) (h : some v = some z) : G X V nL (QL X V z S) pc lv [.long v] S := by
  obtain rfl := Option.some.inj h
  exact g_lreturn hC hd
theorem g_vW {X : CX} {V : WV} {cc : ByteArray} {nL : Nat} {own : String} {fr lo : Nat} {pc : Nat} {lv : List (Option Value)} {S : Mem} (hC : Ck X V cc nL own none fr lo) {z : Mem} (hd : decode cc pc = .ok (.return_, 1)) (h : some S = some z) : G X V nL (QV X V z) pc lv [] S := by
  obtain rfl := Option.some.inj h
  exact g_return hC hd
def swT (pc : Nat) (dflt lo hi : Int) (offs : Array Int) (x : Int) : Int := if x < lo ∨ hi < x then (pc : Int) + dflt else (pc : Int) + (offs[(x - lo).toNat]?).getD dflt
theorem sw_else {x : Int32} {pc : Nat} {dflt lo hi : Int} {offs : Array Int} (vals : List Int32) (hne : ∀ v ∈ vals, ¬ x = v) (hall : ∀ j, j < (hi - lo + 1).toNat → Int32.ofInt (lo + j) ∈ vals ∨ offs[j]? = some dflt) : swT pc dflt lo hi offs x.toInt = (pc : Int) + dflt := by
  unfold swT
  split
  · rfl
  · rename_i q
    have h1 : lo ≤ x.toInt := by omega
    have h2 : x.toInt ≤ hi := by omega
    rcases hall (x.toInt - lo).toNat (by omega) with h | h
    · exact absurd (by rw [show lo + ((x.toInt - lo).toNat : Int) = x.toInt by omega, Int32.ofInt_toInt] : x = Int32.ofInt (lo + ((x.toInt - lo).toNat : Int))) (hne _ h)
    · rw [h]; rfl
theorem g_table {X : CX} {V : WV} {cc : ByteArray} {nL : Nat} {own : String} {ret : Option FieldType} {fr lo : Nat} {Q : State → Prop} {pc : Nat} {lv : List (Option Value)} {st : List Value} {S : Mem} (hC : Ck X V cc nL own ret fr lo) {dflt a b : Int} {offs : Array Int} {len tgt : Nat} {x : Int32} (hd : decode cc pc = .ok (.tableswitch dflt a b offs, len)) (hsz : offs.size = (b - a + 1).toNat) (ht : swT pc dflt a b offs x.toInt = (tgt : Int))
    (k : G X V nL Q tgt lv st S) : G X V nL Q pc lv (.int x :: st) S := by
  obtain ⟨p, l, e, R, s, m, args, below, meth, c, A, nc, ns⟩ := X
  obtain ⟨hx, hb, hml, hown, hts, hlk, hr, hK, hD, hV, hfr, hlo, hSK, hAV, hnc, hns, hD0⟩ := hC
  intro H locs ls hP hS hl
  unfold swT at ht
  by_cases q : x.toInt < a ∨ b < x.toInt
  · rw [if_pos q] at ht
    exact lv_tableOut hx hb hd q ht (k H locs ls hP hS hl)
  · rw [if_neg q] at ht
    have h1 : ¬ x.toInt < a := fun z => q (Or.inl z)
    have h2 : ¬ b < x.toInt := fun z => q (Or.inr z)
    have hlt : (x.toInt - a).toNat < offs.size := by omega
    have ho : offs[(x.toInt - a).toNat]? = some offs[(x.toInt - a).toNat] := Array.getElem?_eq_getElem hlt
    rw [ho] at ht
    exact lv_tableIn hx hb hd h1 h2 ho ht (k H locs ls hP hS hl)
theorem g_look {X : CX} {V : WV} {cc : ByteArray} {nL : Nat} {own : String} {ret : Option FieldType} {fr lo : Nat} {Q : State → Prop} {pc : Nat} {lv : List (Option Value)} {st : List Value} {S : Mem} (hC : Ck X V cc nL own ret fr lo) {dflt : Int} {ps : Array (Int × Int)} {len tgt : Nat} {x : Int32} (hd : decode cc pc = .ok (.lookupswitch dflt ps, len)) (hp : (ps.toList.zip (ps.toList.drop 1)).all (fun (a, next) => a.1 < next.1) = true) (ht : (pc : Int) + Op.lookupswitch.offset ps.toList dflt x.toInt = (tgt : Int))
    (k : G X V nL Q tgt lv st S) : G X V nL Q pc lv (.int x :: st) S := by
  obtain ⟨p, l, e, R, s, m, args, below, meth, c, A, nc, ns⟩ := X
  obtain ⟨hx, hb, hml, hown, hts, hlk, hr, hK, hD, hV, hfr, hlo, hSK, hAV, hnc, hns, hD0⟩ := hC
  exact fun H locs ls hP hS hl => lv_lookup hx hb hd hp rfl ht (k H locs ls hP hS hl)
theorem s_istore_n {X : CX} {V : WV} {cc : ByteArray} {nL : Nat} {own : String} {ret : Option FieldType} {fr lo : Nat} {Q : State → Prop} {pc : Nat} {lv : List (Option Value)} {st : List Value} {S : Mem} (hC : Ck X V cc nL own ret fr lo) {j : Fin 4} {i : Nat} {x : Int32} (hi : (j : Nat) = i) (hn : i < nL) (hd : decode cc pc = .ok (.istore_n j, 1)) {lv2 : List (Option Value)} (hl : lvSt lv i (.int x) = lv2) (k : G X V nL Q (pc + 1) lv2 st S) : G X V nL Q pc lv (.int x :: st) S := by subst hl; exact g_istore_n hC hi hn hd k
theorem s_istore {X : CX} {V : WV} {cc : ByteArray} {nL : Nat} {own : String} {ret : Option FieldType} {fr lo : Nat} {Q : State → Prop} {pc : Nat} {lv : List (Option Value)} {st : List Value} {S : Mem} (hC : Ck X V cc nL own ret fr lo) {i : Nat} {x : Int32} (hn : i < nL) (hd : decode cc pc = .ok (.istore i, 2)) {lv2 : List (Option Value)} (hl : lvSt lv i (.int x) = lv2) (k : G X V nL Q (pc + 2) lv2 st S) : G X V nL Q pc lv (.int x :: st) S := by subst hl; exact g_istore hC hn hd k
theorem s_astore_n {X : CX} {V : WV} {cc : ByteArray} {nL : Nat} {own : String} {ret : Option FieldType} {fr lo : Nat} {Q : State → Prop} {pc : Nat} {lv : List (Option Value)} {st : List Value} {S : Mem} (hC : Ck X V cc nL own ret fr lo) {j : Fin 4} {i : Nat} {x : Nat} (hi : (j : Nat) = i) (hn : i < nL) (hd : decode cc pc = .ok (.astore_n j, 1)) {lv2 : List (Option Value)} (hl : lvSt lv i (.ref x) = lv2) (k : G X V nL Q (pc + 1) lv2 st S) : G X V nL Q pc lv (.ref x :: st) S := by subst hl; exact g_astore_n hC hi hn hd k
theorem s_astore {X : CX} {V : WV} {cc : ByteArray} {nL : Nat} {own : String} {ret : Option FieldType} {fr lo : Nat} {Q : State → Prop} {pc : Nat} {lv : List (Option Value)} {st : List Value} {S : Mem} (hC : Ck X V cc nL own ret fr lo) {i : Nat} {x : Nat} (hn : i < nL) (hd : decode cc pc = .ok (.astore i, 2)) {lv2 : List (Option Value)} (hl : lvSt lv i (.ref x) = lv2) (k : G X V nL Q (pc + 2) lv2 st S) : G X V nL Q pc lv (.ref x :: st) S := by subst hl; exact g_astore hC hn hd k
theorem s_lstore_n {X : CX} {V : WV} {cc : ByteArray} {nL : Nat} {own : String} {ret : Option FieldType} {fr lo : Nat} {Q : State → Prop} {pc : Nat} {lv : List (Option Value)} {st : List Value} {S : Mem} (hC : Ck X V cc nL own ret fr lo) {j : Fin 4} {i : Nat} {x : Int64} (hi : (j : Nat) = i) (hn : i + 1 < nL) (hd : decode cc pc = .ok (.lstore_n j, 1)) {lv2 : List (Option Value)} (hl : lvSL lv i (.long x) = lv2) (k : G X V nL Q (pc + 1) lv2 st S) : G X V nL Q pc lv (.long x :: st) S := by subst hl; exact g_lstore_n hC hi hn hd k
theorem s_lstore {X : CX} {V : WV} {cc : ByteArray} {nL : Nat} {own : String} {ret : Option FieldType} {fr lo : Nat} {Q : State → Prop} {pc : Nat} {lv : List (Option Value)} {st : List Value} {S : Mem} (hC : Ck X V cc nL own ret fr lo) {i : Nat} {x : Int64} (hn : i + 1 < nL) (hd : decode cc pc = .ok (.lstore i, 2)) {lv2 : List (Option Value)} (hl : lvSL lv i (.long x) = lv2) (k : G X V nL Q (pc + 2) lv2 st S) : G X V nL Q pc lv (.long x :: st) S := by subst hl; exact g_lstore hC hn hd k
theorem s_iinc {X : CX} {V : WV} {cc : ByteArray} {nL : Nat} {own : String} {ret : Option FieldType} {fr lo : Nat} {Q : State → Prop} {pc : Nat} {lv : List (Option Value)} {st : List Value} {S : Mem} (hC : Ck X V cc nL own ret fr lo) {i : Nat} {n : Int} {x v : Int32} (hg : lv[i]? = some (some (.int x))) (hv : x + Int32.ofInt n = v) (hn : i < nL) (hd : decode cc pc = .ok (.iinc i n, 3)) {lv2 : List (Option Value)} (hl : lvSt lv i (.int v) = lv2) (k : G X V nL Q (pc + 3) lv2 st S) : G X V nL Q pc lv st S := by subst hl; exact g_iinc hC hg hv hn hd k
theorem tx_lt {tx : Nat} (h : isTx tx) : tx < 2 ^ 31 := by rcases h with rfl | rfl <;> decide
theorem is_4 : isSt 4 := by unfold isSt; decide
theorem is_5 : isSt 5 := by unfold isSt; decide
theorem is_10 : isRw 10 := by unfold isRw; decide
theorem is_11 : isRw 11 := by unfold isRw; decide
theorem nm_4 : isNm 4 := by unfold isNm; decide
theorem nm_5 : isNm 5 := by unfold isNm; decide
theorem nm_6 : isNm 6 := by unfold isNm; decide
theorem lk_off {x : Int32} {d : Int} (vals : List Int32) (hne : ∀ v ∈ vals, ¬ x = v) : ∀ (ps : List (Int × Int)), (∀ q ∈ ps, (Int32.ofInt q.1 ∈ vals ∧ (Int32.ofInt q.1).toInt = q.1) ∨ q.2 = d) → Op.lookupswitch.offset ps d x.toInt = d
  | [], _ => rfl
  | q :: r, h => by
    have ih := lk_off vals hne r (fun p hp => h p (List.mem_cons_of_mem _ hp))
    rcases h q List.mem_cons_self with ⟨h1, h2⟩ | h1
    · rw [show q = (q.1, q.2) from rfl, lv_osw (hne _ h1) h2, ih]
    · rw [show q = (q.1, q.2) from rfl, Op.lookupswitch.offset_cons, ih, h1]
      split <;> rfl
theorem lk_else {x : Int32} {d : Int} {pc tgt : Nat} {ps : Array (Int × Int)} (vals : List Int32) (hne : ∀ v ∈ vals, ¬ x = v) (hall : ∀ q ∈ ps.toList, (Int32.ofInt q.1 ∈ vals ∧ (Int32.ofInt q.1).toInt = q.1) ∨ q.2 = d) (ht : (pc : Int) + d = (tgt : Int)) : (pc : Int) + Op.lookupswitch.offset ps.toList d x.toInt = (tgt : Int) := by rw [lk_off vals hne ps.toList hall]; exact ht
