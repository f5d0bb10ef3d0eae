/-! My own kit over the kit's rows: one world for the class, the reference and the law's row; its state is Sg: what cell k holds at place j. -/
abbrev vwCl : List vw_C := [(RX0, TX0, 14), (RX1, TX1, 14), (RX2, TX2, 12), (RX3, TX3, 6), (RX4, TX4, 10), (RX5, TX5, 5), (RX6, TX6, 27)]
abbrev Sg : Type := Nat → Nat → Int32
abbrev Gw : Type := (Nat → Nat) × (ClassId × ClassId × ClassId × ClassId) × va_G × (Nat → Nat) × (Nat → Nat)
def setA (σ : Sg) (k : Nat) (f : Nat → Int32) : Sg := fun b => if b = k then f else σ b
def put (σ : Sg) (k j : Nat) (v : Int32) : Sg := setA σ k (upd (σ k) j v)
def bz (v : Int32) : Prop := v = 0 ∨ v = 1
def wd (G : Gw) (σ : Sg) : va_W := [
  (G.1 0, .inr (5, [.ref (G.1 1), .ref (G.1 2), .ref (G.1 3), .ref (G.1 4), .ref (G.1 5)])),
  (G.1 1, .inr (3, [.int (σ 1 0), .int (σ 1 1), .ref (G.1 6), .ref (G.1 7), .ref (G.1 8), .ref (G.1 9)])),
  (G.1 2, .inr (1, [.int (σ 2 0), .int (σ 2 1), .int (σ 2 2), .int (σ 2 3), .int (σ 2 4), .ref (G.1 10), .ref (G.1 11), .ref (G.1 12), .ref (G.1 1), .ref (G.1 13), .ref (G.1 14), .ref (G.1 15), .int (σ 2 12), .int (σ 2 13)])),
  (G.1 3, .inr (2, [.int (σ 3 0), .int (σ 3 1), .ref (G.1 1), .ref (G.1 2), .ref (G.1 16), .int (σ 3 5), .int (σ 3 6), .int (σ 3 7), .int (σ 3 8), .ref (G.1 17), .int (σ 3 10), .ref (G.1 18)])),
  (G.1 4, .inr (0, [.ref (G.1 1), .int (σ 4 1), .int (σ 4 2), .int (σ 4 3), .int (σ 4 4), .ref (G.1 19), .ref (G.1 20), .ref (G.1 21), .ref (G.1 22), .ref (G.1 23), .ref (G.1 24), .ref (G.1 25), .ref (G.1 26), .ref (G.1 27)])),
  (G.1 5, .inr (4, [.int (σ 5 0), .int (σ 5 1), .int (σ 5 2), .int (σ 5 3), .ref (G.1 1), .ref (G.1 4), .int (σ 5 6), .int (σ 5 7), .ref (G.1 28), .ref (G.1 29)])),
  (G.1 6, .inl (G.2.1.1, 12, .inl (σ 6))),
  (G.1 7, .inl (G.2.1.1, 24, .inl (σ 7))),
  (G.1 8, .inl (G.2.1.1, 24, .inl (σ 8))),
  (G.1 9, .inl (G.2.1.1, 32, .inl (σ 9))),
  (G.1 10, .inl (G.2.1.1, 8, .inl (σ 10))),
  (G.1 11, .inl (G.2.1.1, 8, .inl (σ 11))),
  (G.1 12, .inl (G.2.1.1, 8, .inl (σ 12))),
  (G.1 13, .inl (G.2.1.1, 160, .inl (σ 13))),
  (G.1 14, .inl (G.2.1.1, 408, .inl (σ 14))),
  (G.1 15, .inl (G.2.1.1, 24, .inl (σ 15))),
  (G.1 16, .inl (G.2.1.2.1, 400, .inl (σ 16))),
  (G.1 17, .inl (G.2.1.1, 5, .inl (σ 17))),
  (G.1 18, .inl (G.2.1.1, 24, .inl (σ 18))),
  (G.1 19, .inl (G.2.1.1, 346, .inl (σ 19))),
  (G.1 20, .inl (G.2.1.1, 3968, .inl (σ 20))),
  (G.1 21, .inl (G.2.1.1, 3968, .inl (σ 21))),
  (G.1 22, .inl (G.2.1.1, 3968, .inl (σ 22))),
  (G.1 23, .inl (G.2.1.1, 346, .inl (σ 23))),
  (G.1 24, .inl (G.2.1.1, 346, .inl (σ 24))),
  (G.1 25, .inl (G.2.1.1, 346, .inl (σ 25))),
  (G.1 26, .inl (G.2.1.1, 24, .inl (σ 26))),
  (G.1 27, .inl (G.2.1.1, 8, .inl (σ 27))),
  (G.1 28, .inl (G.2.1.1, 4, .inl (σ 28))),
  (G.1 29, .inl (G.2.1.1, 24, .inl (σ 29))),
  (G.1 30, .inr (6, [.int (σ 30 0), .ref (G.1 31), .ref (G.1 32), .ref (G.1 33), .int (σ 30 4), .int (σ 30 5), .int (σ 30 6), .int (σ 30 7), .int (σ 30 8), .ref (G.1 34), .ref (G.1 35), .ref (G.1 36), .ref (G.1 37), .ref (G.1 38), .ref (G.1 39), .ref (G.1 40), .int (σ 30 16), .ref (G.1 41), .ref (G.1 42), .ref (G.1 43), .ref (G.1 44), .ref (G.1 45), .ref (G.1 46), .int (σ 30 23), .int (σ 30 24), .int (σ 30 25), .int (σ 30 26)])),
  (G.1 31, .inl (G.2.1.1, 256, .inl (σ 31))),
  (G.1 32, .inl (G.2.1.1, 256, .inl (σ 32))),
  (G.1 33, .inl (G.2.1.2.1, 400, .inl (σ 33))),
  (G.1 34, .inl (G.2.1.1, 346, .inl (σ 34))),
  (G.1 35, .inl (G.2.1.1, 4000, .inl (σ 35))),
  (G.1 36, .inl (G.2.1.1, 4000, .inl (σ 36))),
  (G.1 37, .inl (G.2.1.1, 4000, .inl (σ 37))),
  (G.1 38, .inl (G.2.1.1, 346, .inl (σ 38))),
  (G.1 39, .inl (G.2.1.1, 346, .inl (σ 39))),
  (G.1 40, .inl (G.2.1.2.2.1, 346, .inl (σ 40))),
  (G.1 41, .inl (G.2.1.1, 480, .inl (σ 41))),
  (G.1 42, .inl (G.2.1.1, 8, .inl (σ 42))),
  (G.1 43, .inl (G.2.1.1, 8, .inl (σ 43))),
  (G.1 44, .inl (G.2.1.1, 8, .inl (σ 44))),
  (G.1 45, .inl (G.2.1.1, 1224, .inl (σ 45))),
  (G.1 46, .inl (G.2.1.1, 24, .inl (σ 46))),
  (G.1 47, .inl (G.2.1.2.2.2, 1, .inr (.inl (fun j => (σ 47 j).toInt64))))]
theorem wg_0 (G : Gw) (σ : Sg) : (wd G σ)[0]? = some (G.1 0, .inr (5, [.ref (G.1 1), .ref (G.1 2), .ref (G.1 3), .ref (G.1 4), .ref (G.1 5)])) := rfl
theorem wg_1 (G : Gw) (σ : Sg) : (wd G σ)[1]? = some (G.1 1, .inr (3, [.int (σ 1 0), .int (σ 1 1), .ref (G.1 6), .ref (G.1 7), .ref (G.1 8), .ref (G.1 9)])) := rfl
theorem wg_2 (G : Gw) (σ : Sg) : (wd G σ)[2]? = some (G.1 2, .inr (1, [.int (σ 2 0), .int (σ 2 1), .int (σ 2 2), .int (σ 2 3), .int (σ 2 4), .ref (G.1 10), .ref (G.1 11), .ref (G.1 12), .ref (G.1 1), .ref (G.1 13), .ref (G.1 14), .ref (G.1 15), .int (σ 2 12), .int (σ 2 13)])) := rfl
theorem wg_3 (G : Gw) (σ : Sg) : (wd G σ)[3]? = some (G.1 3, .inr (2, [.int (σ 3 0), .int (σ 3 1), .ref (G.1 1), .ref (G.1 2), .ref (G.1 16), .int (σ 3 5), .int (σ 3 6), .int (σ 3 7), .int (σ 3 8), .ref (G.1 17), .int (σ 3 10), .ref (G.1 18)])) := rfl
theorem wg_4 (G : Gw) (σ : Sg) : (wd G σ)[4]? = some (G.1 4, .inr (0, [.ref (G.1 1), .int (σ 4 1), .int (σ 4 2), .int (σ 4 3), .int (σ 4 4), .ref (G.1 19), .ref (G.1 20), .ref (G.1 21), .ref (G.1 22), .ref (G.1 23), .ref (G.1 24), .ref (G.1 25), .ref (G.1 26), .ref (G.1 27)])) := rfl
theorem wg_5 (G : Gw) (σ : Sg) : (wd G σ)[5]? = some (G.1 5, .inr (4, [.int (σ 5 0), .int (σ 5 1), .int (σ 5 2), .int (σ 5 3), .ref (G.1 1), .ref (G.1 4), .int (σ 5 6), .int (σ 5 7), .ref (G.1 28), .ref (G.1 29)])) := rfl
theorem wg_6 (G : Gw) (σ : Sg) : (wd G σ)[6]? = some (G.1 6, .inl (G.2.1.1, 12, .inl (σ 6))) := rfl
theorem wg_7 (G : Gw) (σ : Sg) : (wd G σ)[7]? = some (G.1 7, .inl (G.2.1.1, 24, .inl (σ 7))) := rfl
theorem wg_8 (G : Gw) (σ : Sg) : (wd G σ)[8]? = some (G.1 8, .inl (G.2.1.1, 24, .inl (σ 8))) := rfl
theorem wg_9 (G : Gw) (σ : Sg) : (wd G σ)[9]? = some (G.1 9, .inl (G.2.1.1, 32, .inl (σ 9))) := rfl
theorem wg_10 (G : Gw) (σ : Sg) : (wd G σ)[10]? = some (G.1 10, .inl (G.2.1.1, 8, .inl (σ 10))) := rfl
theorem wg_11 (G : Gw) (σ : Sg) : (wd G σ)[11]? = some (G.1 11, .inl (G.2.1.1, 8, .inl (σ 11))) := rfl
theorem wg_12 (G : Gw) (σ : Sg) : (wd G σ)[12]? = some (G.1 12, .inl (G.2.1.1, 8, .inl (σ 12))) := rfl
theorem wg_13 (G : Gw) (σ : Sg) : (wd G σ)[13]? = some (G.1 13, .inl (G.2.1.1, 160, .inl (σ 13))) := rfl
theorem wg_14 (G : Gw) (σ : Sg) : (wd G σ)[14]? = some (G.1 14, .inl (G.2.1.1, 408, .inl (σ 14))) := rfl
theorem wg_15 (G : Gw) (σ : Sg) : (wd G σ)[15]? = some (G.1 15, .inl (G.2.1.1, 24, .inl (σ 15))) := rfl
theorem wg_16 (G : Gw) (σ : Sg) : (wd G σ)[16]? = some (G.1 16, .inl (G.2.1.2.1, 400, .inl (σ 16))) := rfl
theorem wg_17 (G : Gw) (σ : Sg) : (wd G σ)[17]? = some (G.1 17, .inl (G.2.1.1, 5, .inl (σ 17))) := rfl
theorem wg_18 (G : Gw) (σ : Sg) : (wd G σ)[18]? = some (G.1 18, .inl (G.2.1.1, 24, .inl (σ 18))) := rfl
theorem wg_19 (G : Gw) (σ : Sg) : (wd G σ)[19]? = some (G.1 19, .inl (G.2.1.1, 346, .inl (σ 19))) := rfl
theorem wg_20 (G : Gw) (σ : Sg) : (wd G σ)[20]? = some (G.1 20, .inl (G.2.1.1, 3968, .inl (σ 20))) := rfl
theorem wg_21 (G : Gw) (σ : Sg) : (wd G σ)[21]? = some (G.1 21, .inl (G.2.1.1, 3968, .inl (σ 21))) := rfl
theorem wg_22 (G : Gw) (σ : Sg) : (wd G σ)[22]? = some (G.1 22, .inl (G.2.1.1, 3968, .inl (σ 22))) := rfl
theorem wg_23 (G : Gw) (σ : Sg) : (wd G σ)[23]? = some (G.1 23, .inl (G.2.1.1, 346, .inl (σ 23))) := rfl
theorem wg_24 (G : Gw) (σ : Sg) : (wd G σ)[24]? = some (G.1 24, .inl (G.2.1.1, 346, .inl (σ 24))) := rfl
theorem wg_25 (G : Gw) (σ : Sg) : (wd G σ)[25]? = some (G.1 25, .inl (G.2.1.1, 346, .inl (σ 25))) := rfl
theorem wg_26 (G : Gw) (σ : Sg) : (wd G σ)[26]? = some (G.1 26, .inl (G.2.1.1, 24, .inl (σ 26))) := rfl
theorem wg_27 (G : Gw) (σ : Sg) : (wd G σ)[27]? = some (G.1 27, .inl (G.2.1.1, 8, .inl (σ 27))) := rfl
theorem wg_28 (G : Gw) (σ : Sg) : (wd G σ)[28]? = some (G.1 28, .inl (G.2.1.1, 4, .inl (σ 28))) := rfl
theorem wg_29 (G : Gw) (σ : Sg) : (wd G σ)[29]? = some (G.1 29, .inl (G.2.1.1, 24, .inl (σ 29))) := rfl
theorem wg_30 (G : Gw) (σ : Sg) : (wd G σ)[30]? = some (G.1 30, .inr (6, [.int (σ 30 0), .ref (G.1 31), .ref (G.1 32), .ref (G.1 33), .int (σ 30 4), .int (σ 30 5), .int (σ 30 6), .int (σ 30 7), .int (σ 30 8), .ref (G.1 34), .ref (G.1 35), .ref (G.1 36), .ref (G.1 37), .ref (G.1 38), .ref (G.1 39), .ref (G.1 40), .int (σ 30 16), .ref (G.1 41), .ref (G.1 42), .ref (G.1 43), .ref (G.1 44), .ref (G.1 45), .ref (G.1 46), .int (σ 30 23), .int (σ 30 24), .int (σ 30 25), .int (σ 30 26)])) := rfl
theorem wg_31 (G : Gw) (σ : Sg) : (wd G σ)[31]? = some (G.1 31, .inl (G.2.1.1, 256, .inl (σ 31))) := rfl
theorem wg_32 (G : Gw) (σ : Sg) : (wd G σ)[32]? = some (G.1 32, .inl (G.2.1.1, 256, .inl (σ 32))) := rfl
theorem wg_33 (G : Gw) (σ : Sg) : (wd G σ)[33]? = some (G.1 33, .inl (G.2.1.2.1, 400, .inl (σ 33))) := rfl
theorem wg_34 (G : Gw) (σ : Sg) : (wd G σ)[34]? = some (G.1 34, .inl (G.2.1.1, 346, .inl (σ 34))) := rfl
theorem wg_35 (G : Gw) (σ : Sg) : (wd G σ)[35]? = some (G.1 35, .inl (G.2.1.1, 4000, .inl (σ 35))) := rfl
theorem wg_36 (G : Gw) (σ : Sg) : (wd G σ)[36]? = some (G.1 36, .inl (G.2.1.1, 4000, .inl (σ 36))) := rfl
theorem wg_37 (G : Gw) (σ : Sg) : (wd G σ)[37]? = some (G.1 37, .inl (G.2.1.1, 4000, .inl (σ 37))) := rfl
theorem wg_38 (G : Gw) (σ : Sg) : (wd G σ)[38]? = some (G.1 38, .inl (G.2.1.1, 346, .inl (σ 38))) := rfl
theorem wg_39 (G : Gw) (σ : Sg) : (wd G σ)[39]? = some (G.1 39, .inl (G.2.1.1, 346, .inl (σ 39))) := rfl
theorem wg_40 (G : Gw) (σ : Sg) : (wd G σ)[40]? = some (G.1 40, .inl (G.2.1.2.2.1, 346, .inl (σ 40))) := rfl
theorem wg_41 (G : Gw) (σ : Sg) : (wd G σ)[41]? = some (G.1 41, .inl (G.2.1.1, 480, .inl (σ 41))) := rfl
theorem wg_42 (G : Gw) (σ : Sg) : (wd G σ)[42]? = some (G.1 42, .inl (G.2.1.1, 8, .inl (σ 42))) := rfl
theorem wg_43 (G : Gw) (σ : Sg) : (wd G σ)[43]? = some (G.1 43, .inl (G.2.1.1, 8, .inl (σ 43))) := rfl
theorem wg_44 (G : Gw) (σ : Sg) : (wd G σ)[44]? = some (G.1 44, .inl (G.2.1.1, 8, .inl (σ 44))) := rfl
theorem wg_45 (G : Gw) (σ : Sg) : (wd G σ)[45]? = some (G.1 45, .inl (G.2.1.1, 1224, .inl (σ 45))) := rfl
theorem wg_46 (G : Gw) (σ : Sg) : (wd G σ)[46]? = some (G.1 46, .inl (G.2.1.1, 24, .inl (σ 46))) := rfl
theorem wg_47 (G : Gw) (σ : Sg) : (wd G σ)[47]? = some (G.1 47, .inl (G.2.1.2.2.2, 1, .inr (.inl (fun j => (σ 47 j).toInt64)))) := rfl
theorem ws_1_0 (G : Gw) (σ : Sg) (v : Int32) : (wd G σ).set 1 (G.1 1, .inr (3, List.set [.int (σ 1 0), .int (σ 1 1), .ref (G.1 6), .ref (G.1 7), .ref (G.1 8), .ref (G.1 9)] 0 (.int v))) = wd G (put σ 1 0 v) := rfl
theorem ws_1_1 (G : Gw) (σ : Sg) (v : Int32) : (wd G σ).set 1 (G.1 1, .inr (3, List.set [.int (σ 1 0), .int (σ 1 1), .ref (G.1 6), .ref (G.1 7), .ref (G.1 8), .ref (G.1 9)] 1 (.int v))) = wd G (put σ 1 1 v) := rfl
theorem ws_2_0 (G : Gw) (σ : Sg) (v : Int32) : (wd G σ).set 2 (G.1 2, .inr (1, List.set [.int (σ 2 0), .int (σ 2 1), .int (σ 2 2), .int (σ 2 3), .int (σ 2 4), .ref (G.1 10), .ref (G.1 11), .ref (G.1 12), .ref (G.1 1), .ref (G.1 13), .ref (G.1 14), .ref (G.1 15), .int (σ 2 12), .int (σ 2 13)] 0 (.int v))) = wd G (put σ 2 0 v) := rfl
theorem ws_2_1 (G : Gw) (σ : Sg) (v : Int32) : (wd G σ).set 2 (G.1 2, .inr (1, List.set [.int (σ 2 0), .int (σ 2 1), .int (σ 2 2), .int (σ 2 3), .int (σ 2 4), .ref (G.1 10), .ref (G.1 11), .ref (G.1 12), .ref (G.1 1), .ref (G.1 13), .ref (G.1 14), .ref (G.1 15), .int (σ 2 12), .int (σ 2 13)] 1 (.int v))) = wd G (put σ 2 1 v) := rfl
theorem ws_2_2 (G : Gw) (σ : Sg) (v : Int32) : (wd G σ).set 2 (G.1 2, .inr (1, List.set [.int (σ 2 0), .int (σ 2 1), .int (σ 2 2), .int (σ 2 3), .int (σ 2 4), .ref (G.1 10), .ref (G.1 11), .ref (G.1 12), .ref (G.1 1), .ref (G.1 13), .ref (G.1 14), .ref (G.1 15), .int (σ 2 12), .int (σ 2 13)] 2 (.int v))) = wd G (put σ 2 2 v) := rfl
theorem ws_2_3 (G : Gw) (σ : Sg) (v : Int32) : (wd G σ).set 2 (G.1 2, .inr (1, List.set [.int (σ 2 0), .int (σ 2 1), .int (σ 2 2), .int (σ 2 3), .int (σ 2 4), .ref (G.1 10), .ref (G.1 11), .ref (G.1 12), .ref (G.1 1), .ref (G.1 13), .ref (G.1 14), .ref (G.1 15), .int (σ 2 12), .int (σ 2 13)] 3 (.int v))) = wd G (put σ 2 3 v) := rfl
theorem ws_2_4 (G : Gw) (σ : Sg) (v : Int32) : (wd G σ).set 2 (G.1 2, .inr (1, List.set [.int (σ 2 0), .int (σ 2 1), .int (σ 2 2), .int (σ 2 3), .int (σ 2 4), .ref (G.1 10), .ref (G.1 11), .ref (G.1 12), .ref (G.1 1), .ref (G.1 13), .ref (G.1 14), .ref (G.1 15), .int (σ 2 12), .int (σ 2 13)] 4 (.int v))) = wd G (put σ 2 4 v) := rfl
theorem ws_2_12 (G : Gw) (σ : Sg) (v : Int32) : (wd G σ).set 2 (G.1 2, .inr (1, List.set [.int (σ 2 0), .int (σ 2 1), .int (σ 2 2), .int (σ 2 3), .int (σ 2 4), .ref (G.1 10), .ref (G.1 11), .ref (G.1 12), .ref (G.1 1), .ref (G.1 13), .ref (G.1 14), .ref (G.1 15), .int (σ 2 12), .int (σ 2 13)] 12 (.int v))) = wd G (put σ 2 12 v) := rfl
theorem ws_2_13 (G : Gw) (σ : Sg) (v : Int32) : (wd G σ).set 2 (G.1 2, .inr (1, List.set [.int (σ 2 0), .int (σ 2 1), .int (σ 2 2), .int (σ 2 3), .int (σ 2 4), .ref (G.1 10), .ref (G.1 11), .ref (G.1 12), .ref (G.1 1), .ref (G.1 13), .ref (G.1 14), .ref (G.1 15), .int (σ 2 12), .int (σ 2 13)] 13 (.int v))) = wd G (put σ 2 13 v) := rfl
theorem ws_3_0 (G : Gw) (σ : Sg) (v : Int32) : (wd G σ).set 3 (G.1 3, .inr (2, List.set [.int (σ 3 0), .int (σ 3 1), .ref (G.1 1), .ref (G.1 2), .ref (G.1 16), .int (σ 3 5), .int (σ 3 6), .int (σ 3 7), .int (σ 3 8), .ref (G.1 17), .int (σ 3 10), .ref (G.1 18)] 0 (.int v))) = wd G (put σ 3 0 v) := rfl
theorem ws_3_1 (G : Gw) (σ : Sg) (v : Int32) : (wd G σ).set 3 (G.1 3, .inr (2, List.set [.int (σ 3 0), .int (σ 3 1), .ref (G.1 1), .ref (G.1 2), .ref (G.1 16), .int (σ 3 5), .int (σ 3 6), .int (σ 3 7), .int (σ 3 8), .ref (G.1 17), .int (σ 3 10), .ref (G.1 18)] 1 (.int v))) = wd G (put σ 3 1 v) := rfl
theorem ws_3_5 (G : Gw) (σ : Sg) (v : Int32) : (wd G σ).set 3 (G.1 3, .inr (2, List.set [.int (σ 3 0), .int (σ 3 1), .ref (G.1 1), .ref (G.1 2), .ref (G.1 16), .int (σ 3 5), .int (σ 3 6), .int (σ 3 7), .int (σ 3 8), .ref (G.1 17), .int (σ 3 10), .ref (G.1 18)] 5 (.int v))) = wd G (put σ 3 5 v) := rfl
theorem ws_3_6 (G : Gw) (σ : Sg) (v : Int32) : (wd G σ).set 3 (G.1 3, .inr (2, List.set [.int (σ 3 0), .int (σ 3 1), .ref (G.1 1), .ref (G.1 2), .ref (G.1 16), .int (σ 3 5), .int (σ 3 6), .int (σ 3 7), .int (σ 3 8), .ref (G.1 17), .int (σ 3 10), .ref (G.1 18)] 6 (.int v))) = wd G (put σ 3 6 v) := rfl
theorem ws_3_7 (G : Gw) (σ : Sg) (v : Int32) : (wd G σ).set 3 (G.1 3, .inr (2, List.set [.int (σ 3 0), .int (σ 3 1), .ref (G.1 1), .ref (G.1 2), .ref (G.1 16), .int (σ 3 5), .int (σ 3 6), .int (σ 3 7), .int (σ 3 8), .ref (G.1 17), .int (σ 3 10), .ref (G.1 18)] 7 (.int v))) = wd G (put σ 3 7 v) := rfl
theorem ws_3_8 (G : Gw) (σ : Sg) (v : Int32) : (wd G σ).set 3 (G.1 3, .inr (2, List.set [.int (σ 3 0), .int (σ 3 1), .ref (G.1 1), .ref (G.1 2), .ref (G.1 16), .int (σ 3 5), .int (σ 3 6), .int (σ 3 7), .int (σ 3 8), .ref (G.1 17), .int (σ 3 10), .ref (G.1 18)] 8 (.int v))) = wd G (put σ 3 8 v) := rfl
theorem ws_3_10 (G : Gw) (σ : Sg) (v : Int32) : (wd G σ).set 3 (G.1 3, .inr (2, List.set [.int (σ 3 0), .int (σ 3 1), .ref (G.1 1), .ref (G.1 2), .ref (G.1 16), .int (σ 3 5), .int (σ 3 6), .int (σ 3 7), .int (σ 3 8), .ref (G.1 17), .int (σ 3 10), .ref (G.1 18)] 10 (.int v))) = wd G (put σ 3 10 v) := rfl
theorem ws_4_1 (G : Gw) (σ : Sg) (v : Int32) : (wd G σ).set 4 (G.1 4, .inr (0, List.set [.ref (G.1 1), .int (σ 4 1), .int (σ 4 2), .int (σ 4 3), .int (σ 4 4), .ref (G.1 19), .ref (G.1 20), .ref (G.1 21), .ref (G.1 22), .ref (G.1 23), .ref (G.1 24), .ref (G.1 25), .ref (G.1 26), .ref (G.1 27)] 1 (.int v))) = wd G (put σ 4 1 v) := rfl
theorem ws_4_2 (G : Gw) (σ : Sg) (v : Int32) : (wd G σ).set 4 (G.1 4, .inr (0, List.set [.ref (G.1 1), .int (σ 4 1), .int (σ 4 2), .int (σ 4 3), .int (σ 4 4), .ref (G.1 19), .ref (G.1 20), .ref (G.1 21), .ref (G.1 22), .ref (G.1 23), .ref (G.1 24), .ref (G.1 25), .ref (G.1 26), .ref (G.1 27)] 2 (.int v))) = wd G (put σ 4 2 v) := rfl
theorem ws_4_3 (G : Gw) (σ : Sg) (v : Int32) : (wd G σ).set 4 (G.1 4, .inr (0, List.set [.ref (G.1 1), .int (σ 4 1), .int (σ 4 2), .int (σ 4 3), .int (σ 4 4), .ref (G.1 19), .ref (G.1 20), .ref (G.1 21), .ref (G.1 22), .ref (G.1 23), .ref (G.1 24), .ref (G.1 25), .ref (G.1 26), .ref (G.1 27)] 3 (.int v))) = wd G (put σ 4 3 v) := rfl
theorem ws_4_4 (G : Gw) (σ : Sg) (v : Int32) : (wd G σ).set 4 (G.1 4, .inr (0, List.set [.ref (G.1 1), .int (σ 4 1), .int (σ 4 2), .int (σ 4 3), .int (σ 4 4), .ref (G.1 19), .ref (G.1 20), .ref (G.1 21), .ref (G.1 22), .ref (G.1 23), .ref (G.1 24), .ref (G.1 25), .ref (G.1 26), .ref (G.1 27)] 4 (.int v))) = wd G (put σ 4 4 v) := rfl
theorem ws_5_0 (G : Gw) (σ : Sg) (v : Int32) : (wd G σ).set 5 (G.1 5, .inr (4, List.set [.int (σ 5 0), .int (σ 5 1), .int (σ 5 2), .int (σ 5 3), .ref (G.1 1), .ref (G.1 4), .int (σ 5 6), .int (σ 5 7), .ref (G.1 28), .ref (G.1 29)] 0 (.int v))) = wd G (put σ 5 0 v) := rfl
theorem ws_5_1 (G : Gw) (σ : Sg) (v : Int32) : (wd G σ).set 5 (G.1 5, .inr (4, List.set [.int (σ 5 0), .int (σ 5 1), .int (σ 5 2), .int (σ 5 3), .ref (G.1 1), .ref (G.1 4), .int (σ 5 6), .int (σ 5 7), .ref (G.1 28), .ref (G.1 29)] 1 (.int v))) = wd G (put σ 5 1 v) := rfl
theorem ws_5_2 (G : Gw) (σ : Sg) (v : Int32) : (wd G σ).set 5 (G.1 5, .inr (4, List.set [.int (σ 5 0), .int (σ 5 1), .int (σ 5 2), .int (σ 5 3), .ref (G.1 1), .ref (G.1 4), .int (σ 5 6), .int (σ 5 7), .ref (G.1 28), .ref (G.1 29)] 2 (.int v))) = wd G (put σ 5 2 v) := rfl
theorem ws_5_3 (G : Gw) (σ : Sg) (v : Int32) : (wd G σ).set 5 (G.1 5, .inr (4, List.set [.int (σ 5 0), .int (σ 5 1), .int (σ 5 2), .int (σ 5 3), .ref (G.1 1), .ref (G.1 4), .int (σ 5 6), .int (σ 5 7), .ref (G.1 28), .ref (G.1 29)] 3 (.int v))) = wd G (put σ 5 3 v) := rfl
theorem ws_5_6 (G : Gw) (σ : Sg) (v : Int32) : (wd G σ).set 5 (G.1 5, .inr (4, List.set [.int (σ 5 0), .int (σ 5 1), .int (σ 5 2), .int (σ 5 3), .ref (G.1 1), .ref (G.1 4), .int (σ 5 6), .int (σ 5 7), .ref (G.1 28), .ref (G.1 29)] 6 (.int v))) = wd G (put σ 5 6 v) := rfl
theorem ws_5_7 (G : Gw) (σ : Sg) (v : Int32) : (wd G σ).set 5 (G.1 5, .inr (4, List.set [.int (σ 5 0), .int (σ 5 1), .int (σ 5 2), .int (σ 5 3), .ref (G.1 1), .ref (G.1 4), .int (σ 5 6), .int (σ 5 7), .ref (G.1 28), .ref (G.1 29)] 7 (.int v))) = wd G (put σ 5 7 v) := rfl
theorem ws_6 (G : Gw) (σ : Sg) (g : Nat → Int32) : (wd G σ).set 6 (G.1 6, .inl (G.2.1.1, 12, .inl g)) = wd G (setA σ 6 g) := rfl
theorem ws_7 (G : Gw) (σ : Sg) (g : Nat → Int32) : (wd G σ).set 7 (G.1 7, .inl (G.2.1.1, 24, .inl g)) = wd G (setA σ 7 g) := rfl
theorem ws_8 (G : Gw) (σ : Sg) (g : Nat → Int32) : (wd G σ).set 8 (G.1 8, .inl (G.2.1.1, 24, .inl g)) = wd G (setA σ 8 g) := rfl
theorem ws_9 (G : Gw) (σ : Sg) (g : Nat → Int32) : (wd G σ).set 9 (G.1 9, .inl (G.2.1.1, 32, .inl g)) = wd G (setA σ 9 g) := rfl
theorem ws_10 (G : Gw) (σ : Sg) (g : Nat → Int32) : (wd G σ).set 10 (G.1 10, .inl (G.2.1.1, 8, .inl g)) = wd G (setA σ 10 g) := rfl
theorem ws_11 (G : Gw) (σ : Sg) (g : Nat → Int32) : (wd G σ).set 11 (G.1 11, .inl (G.2.1.1, 8, .inl g)) = wd G (setA σ 11 g) := rfl
theorem ws_12 (G : Gw) (σ : Sg) (g : Nat → Int32) : (wd G σ).set 12 (G.1 12, .inl (G.2.1.1, 8, .inl g)) = wd G (setA σ 12 g) := rfl
theorem ws_13 (G : Gw) (σ : Sg) (g : Nat → Int32) : (wd G σ).set 13 (G.1 13, .inl (G.2.1.1, 160, .inl g)) = wd G (setA σ 13 g) := rfl
theorem ws_14 (G : Gw) (σ : Sg) (g : Nat → Int32) : (wd G σ).set 14 (G.1 14, .inl (G.2.1.1, 408, .inl g)) = wd G (setA σ 14 g) := rfl
theorem ws_15 (G : Gw) (σ : Sg) (g : Nat → Int32) : (wd G σ).set 15 (G.1 15, .inl (G.2.1.1, 24, .inl g)) = wd G (setA σ 15 g) := rfl
theorem ws_16 (G : Gw) (σ : Sg) (g : Nat → Int32) : (wd G σ).set 16 (G.1 16, .inl (G.2.1.2.1, 400, .inl g)) = wd G (setA σ 16 g) := rfl
theorem ws_17 (G : Gw) (σ : Sg) (g : Nat → Int32) : (wd G σ).set 17 (G.1 17, .inl (G.2.1.1, 5, .inl g)) = wd G (setA σ 17 g) := rfl
theorem ws_18 (G : Gw) (σ : Sg) (g : Nat → Int32) : (wd G σ).set 18 (G.1 18, .inl (G.2.1.1, 24, .inl g)) = wd G (setA σ 18 g) := rfl
theorem ws_19 (G : Gw) (σ : Sg) (g : Nat → Int32) : (wd G σ).set 19 (G.1 19, .inl (G.2.1.1, 346, .inl g)) = wd G (setA σ 19 g) := rfl
theorem ws_20 (G : Gw) (σ : Sg) (g : Nat → Int32) : (wd G σ).set 20 (G.1 20, .inl (G.2.1.1, 3968, .inl g)) = wd G (setA σ 20 g) := rfl
theorem ws_21 (G : Gw) (σ : Sg) (g : Nat → Int32) : (wd G σ).set 21 (G.1 21, .inl (G.2.1.1, 3968, .inl g)) = wd G (setA σ 21 g) := rfl
theorem ws_22 (G : Gw) (σ : Sg) (g : Nat → Int32) : (wd G σ).set 22 (G.1 22, .inl (G.2.1.1, 3968, .inl g)) = wd G (setA σ 22 g) := rfl
theorem ws_23 (G : Gw) (σ : Sg) (g : Nat → Int32) : (wd G σ).set 23 (G.1 23, .inl (G.2.1.1, 346, .inl g)) = wd G (setA σ 23 g) := rfl
theorem ws_24 (G : Gw) (σ : Sg) (g : Nat → Int32) : (wd G σ).set 24 (G.1 24, .inl (G.2.1.1, 346, .inl g)) = wd G (setA σ 24 g) := rfl
theorem ws_25 (G : Gw) (σ : Sg) (g : Nat → Int32) : (wd G σ).set 25 (G.1 25, .inl (G.2.1.1, 346, .inl g)) = wd G (setA σ 25 g) := rfl
theorem ws_26 (G : Gw) (σ : Sg) (g : Nat → Int32) : (wd G σ).set 26 (G.1 26, .inl (G.2.1.1, 24, .inl g)) = wd G (setA σ 26 g) := rfl
theorem ws_27 (G : Gw) (σ : Sg) (g : Nat → Int32) : (wd G σ).set 27 (G.1 27, .inl (G.2.1.1, 8, .inl g)) = wd G (setA σ 27 g) := rfl
theorem ws_28 (G : Gw) (σ : Sg) (g : Nat → Int32) : (wd G σ).set 28 (G.1 28, .inl (G.2.1.1, 4, .inl g)) = wd G (setA σ 28 g) := rfl
theorem ws_29 (G : Gw) (σ : Sg) (g : Nat → Int32) : (wd G σ).set 29 (G.1 29, .inl (G.2.1.1, 24, .inl g)) = wd G (setA σ 29 g) := rfl
theorem ws_30_0 (G : Gw) (σ : Sg) (v : Int32) : (wd G σ).set 30 (G.1 30, .inr (6, List.set [.int (σ 30 0), .ref (G.1 31), .ref (G.1 32), .ref (G.1 33), .int (σ 30 4), .int (σ 30 5), .int (σ 30 6), .int (σ 30 7), .int (σ 30 8), .ref (G.1 34), .ref (G.1 35), .ref (G.1 36), .ref (G.1 37), .ref (G.1 38), .ref (G.1 39), .ref (G.1 40), .int (σ 30 16), .ref (G.1 41), .ref (G.1 42), .ref (G.1 43), .ref (G.1 44), .ref (G.1 45), .ref (G.1 46), .int (σ 30 23), .int (σ 30 24), .int (σ 30 25), .int (σ 30 26)] 0 (.int v))) = wd G (put σ 30 0 v) := rfl
theorem ws_30_4 (G : Gw) (σ : Sg) (v : Int32) : (wd G σ).set 30 (G.1 30, .inr (6, List.set [.int (σ 30 0), .ref (G.1 31), .ref (G.1 32), .ref (G.1 33), .int (σ 30 4), .int (σ 30 5), .int (σ 30 6), .int (σ 30 7), .int (σ 30 8), .ref (G.1 34), .ref (G.1 35), .ref (G.1 36), .ref (G.1 37), .ref (G.1 38), .ref (G.1 39), .ref (G.1 40), .int (σ 30 16), .ref (G.1 41), .ref (G.1 42), .ref (G.1 43), .ref (G.1 44), .ref (G.1 45), .ref (G.1 46), .int (σ 30 23), .int (σ 30 24), .int (σ 30 25), .int (σ 30 26)] 4 (.int v))) = wd G (put σ 30 4 v) := rfl
theorem ws_30_5 (G : Gw) (σ : Sg) (v : Int32) : (wd G σ).set 30 (G.1 30, .inr (6, List.set [.int (σ 30 0), .ref (G.1 31), .ref (G.1 32), .ref (G.1 33), .int (σ 30 4), .int (σ 30 5), .int (σ 30 6), .int (σ 30 7), .int (σ 30 8), .ref (G.1 34), .ref (G.1 35), .ref (G.1 36), .ref (G.1 37), .ref (G.1 38), .ref (G.1 39), .ref (G.1 40), .int (σ 30 16), .ref (G.1 41), .ref (G.1 42), .ref (G.1 43), .ref (G.1 44), .ref (G.1 45), .ref (G.1 46), .int (σ 30 23), .int (σ 30 24), .int (σ 30 25), .int (σ 30 26)] 5 (.int v))) = wd G (put σ 30 5 v) := rfl
theorem ws_30_6 (G : Gw) (σ : Sg) (v : Int32) : (wd G σ).set 30 (G.1 30, .inr (6, List.set [.int (σ 30 0), .ref (G.1 31), .ref (G.1 32), .ref (G.1 33), .int (σ 30 4), .int (σ 30 5), .int (σ 30 6), .int (σ 30 7), .int (σ 30 8), .ref (G.1 34), .ref (G.1 35), .ref (G.1 36), .ref (G.1 37), .ref (G.1 38), .ref (G.1 39), .ref (G.1 40), .int (σ 30 16), .ref (G.1 41), .ref (G.1 42), .ref (G.1 43), .ref (G.1 44), .ref (G.1 45), .ref (G.1 46), .int (σ 30 23), .int (σ 30 24), .int (σ 30 25), .int (σ 30 26)] 6 (.int v))) = wd G (put σ 30 6 v) := rfl
theorem ws_30_7 (G : Gw) (σ : Sg) (v : Int32) : (wd G σ).set 30 (G.1 30, .inr (6, List.set [.int (σ 30 0), .ref (G.1 31), .ref (G.1 32), .ref (G.1 33), .int (σ 30 4), .int (σ 30 5), .int (σ 30 6), .int (σ 30 7), .int (σ 30 8), .ref (G.1 34), .ref (G.1 35), .ref (G.1 36), .ref (G.1 37), .ref (G.1 38), .ref (G.1 39), .ref (G.1 40), .int (σ 30 16), .ref (G.1 41), .ref (G.1 42), .ref (G.1 43), .ref (G.1 44), .ref (G.1 45), .ref (G.1 46), .int (σ 30 23), .int (σ 30 24), .int (σ 30 25), .int (σ 30 26)] 7 (.int v))) = wd G (put σ 30 7 v) := rfl
theorem ws_30_8 (G : Gw) (σ : Sg) (v : Int32) : (wd G σ).set 30 (G.1 30, .inr (6, List.set [.int (σ 30 0), .ref (G.1 31), .ref (G.1 32), .ref (G.1 33), .int (σ 30 4), .int (σ 30 5), .int (σ 30 6), .int (σ 30 7), .int (σ 30 8), .ref (G.1 34), .ref (G.1 35), .ref (G.1 36), .ref (G.1 37), .ref (G.1 38), .ref (G.1 39), .ref (G.1 40), .int (σ 30 16), .ref (G.1 41), .ref (G.1 42), .ref (G.1 43), .ref (G.1 44), .ref (G.1 45), .ref (G.1 46), .int (σ 30 23), .int (σ 30 24), .int (σ 30 25), .int (σ 30 26)] 8 (.int v))) = wd G (put σ 30 8 v) := rfl
theorem ws_30_16 (G : Gw) (σ : Sg) (v : Int32) : (wd G σ).set 30 (G.1 30, .inr (6, List.set [.int (σ 30 0), .ref (G.1 31), .ref (G.1 32), .ref (G.1 33), .int (σ 30 4), .int (σ 30 5), .int (σ 30 6), .int (σ 30 7), .int (σ 30 8), .ref (G.1 34), .ref (G.1 35), .ref (G.1 36), .ref (G.1 37), .ref (G.1 38), .ref (G.1 39), .ref (G.1 40), .int (σ 30 16), .ref (G.1 41), .ref (G.1 42), .ref (G.1 43), .ref (G.1 44), .ref (G.1 45), .ref (G.1 46), .int (σ 30 23), .int (σ 30 24), .int (σ 30 25), .int (σ 30 26)] 16 (.int v))) = wd G (put σ 30 16 v) := rfl
theorem ws_30_23 (G : Gw) (σ : Sg) (v : Int32) : (wd G σ).set 30 (G.1 30, .inr (6, List.set [.int (σ 30 0), .ref (G.1 31), .ref (G.1 32), .ref (G.1 33), .int (σ 30 4), .int (σ 30 5), .int (σ 30 6), .int (σ 30 7), .int (σ 30 8), .ref (G.1 34), .ref (G.1 35), .ref (G.1 36), .ref (G.1 37), .ref (G.1 38), .ref (G.1 39), .ref (G.1 40), .int (σ 30 16), .ref (G.1 41), .ref (G.1 42), .ref (G.1 43), .ref (G.1 44), .ref (G.1 45), .ref (G.1 46), .int (σ 30 23), .int (σ 30 24), .int (σ 30 25), .int (σ 30 26)] 23 (.int v))) = wd G (put σ 30 23 v) := rfl
theorem ws_30_24 (G : Gw) (σ : Sg) (v : Int32) : (wd G σ).set 30 (G.1 30, .inr (6, List.set [.int (σ 30 0), .ref (G.1 31), .ref (G.1 32), .ref (G.1 33), .int (σ 30 4), .int (σ 30 5), .int (σ 30 6), .int (σ 30 7), .int (σ 30 8), .ref (G.1 34), .ref (G.1 35), .ref (G.1 36), .ref (G.1 37), .ref (G.1 38), .ref (G.1 39), .ref (G.1 40), .int (σ 30 16), .ref (G.1 41), .ref (G.1 42), .ref (G.1 43), .ref (G.1 44), .ref (G.1 45), .ref (G.1 46), .int (σ 30 23), .int (σ 30 24), .int (σ 30 25), .int (σ 30 26)] 24 (.int v))) = wd G (put σ 30 24 v) := rfl
theorem ws_30_25 (G : Gw) (σ : Sg) (v : Int32) : (wd G σ).set 30 (G.1 30, .inr (6, List.set [.int (σ 30 0), .ref (G.1 31), .ref (G.1 32), .ref (G.1 33), .int (σ 30 4), .int (σ 30 5), .int (σ 30 6), .int (σ 30 7), .int (σ 30 8), .ref (G.1 34), .ref (G.1 35), .ref (G.1 36), .ref (G.1 37), .ref (G.1 38), .ref (G.1 39), .ref (G.1 40), .int (σ 30 16), .ref (G.1 41), .ref (G.1 42), .ref (G.1 43), .ref (G.1 44), .ref (G.1 45), .ref (G.1 46), .int (σ 30 23), .int (σ 30 24), .int (σ 30 25), .int (σ 30 26)] 25 (.int v))) = wd G (put σ 30 25 v) := rfl
theorem ws_30_26 (G : Gw) (σ : Sg) (v : Int32) : (wd G σ).set 30 (G.1 30, .inr (6, List.set [.int (σ 30 0), .ref (G.1 31), .ref (G.1 32), .ref (G.1 33), .int (σ 30 4), .int (σ 30 5), .int (σ 30 6), .int (σ 30 7), .int (σ 30 8), .ref (G.1 34), .ref (G.1 35), .ref (G.1 36), .ref (G.1 37), .ref (G.1 38), .ref (G.1 39), .ref (G.1 40), .int (σ 30 16), .ref (G.1 41), .ref (G.1 42), .ref (G.1 43), .ref (G.1 44), .ref (G.1 45), .ref (G.1 46), .int (σ 30 23), .int (σ 30 24), .int (σ 30 25), .int (σ 30 26)] 26 (.int v))) = wd G (put σ 30 26 v) := rfl
theorem ws_31 (G : Gw) (σ : Sg) (g : Nat → Int32) : (wd G σ).set 31 (G.1 31, .inl (G.2.1.1, 256, .inl g)) = wd G (setA σ 31 g) := rfl
theorem ws_32 (G : Gw) (σ : Sg) (g : Nat → Int32) : (wd G σ).set 32 (G.1 32, .inl (G.2.1.1, 256, .inl g)) = wd G (setA σ 32 g) := rfl
theorem ws_33 (G : Gw) (σ : Sg) (g : Nat → Int32) : (wd G σ).set 33 (G.1 33, .inl (G.2.1.2.1, 400, .inl g)) = wd G (setA σ 33 g) := rfl
theorem ws_34 (G : Gw) (σ : Sg) (g : Nat → Int32) : (wd G σ).set 34 (G.1 34, .inl (G.2.1.1, 346, .inl g)) = wd G (setA σ 34 g) := rfl
theorem ws_35 (G : Gw) (σ : Sg) (g : Nat → Int32) : (wd G σ).set 35 (G.1 35, .inl (G.2.1.1, 4000, .inl g)) = wd G (setA σ 35 g) := rfl
theorem ws_36 (G : Gw) (σ : Sg) (g : Nat → Int32) : (wd G σ).set 36 (G.1 36, .inl (G.2.1.1, 4000, .inl g)) = wd G (setA σ 36 g) := rfl
theorem ws_37 (G : Gw) (σ : Sg) (g : Nat → Int32) : (wd G σ).set 37 (G.1 37, .inl (G.2.1.1, 4000, .inl g)) = wd G (setA σ 37 g) := rfl
theorem ws_38 (G : Gw) (σ : Sg) (g : Nat → Int32) : (wd G σ).set 38 (G.1 38, .inl (G.2.1.1, 346, .inl g)) = wd G (setA σ 38 g) := rfl
theorem ws_39 (G : Gw) (σ : Sg) (g : Nat → Int32) : (wd G σ).set 39 (G.1 39, .inl (G.2.1.1, 346, .inl g)) = wd G (setA σ 39 g) := rfl
theorem ws_40 (G : Gw) (σ : Sg) (g : Nat → Int32) : (wd G σ).set 40 (G.1 40, .inl (G.2.1.2.2.1, 346, .inl g)) = wd G (setA σ 40 g) := rfl
theorem ws_41 (G : Gw) (σ : Sg) (g : Nat → Int32) : (wd G σ).set 41 (G.1 41, .inl (G.2.1.1, 480, .inl g)) = wd G (setA σ 41 g) := rfl
theorem ws_42 (G : Gw) (σ : Sg) (g : Nat → Int32) : (wd G σ).set 42 (G.1 42, .inl (G.2.1.1, 8, .inl g)) = wd G (setA σ 42 g) := rfl
theorem ws_43 (G : Gw) (σ : Sg) (g : Nat → Int32) : (wd G σ).set 43 (G.1 43, .inl (G.2.1.1, 8, .inl g)) = wd G (setA σ 43 g) := rfl
theorem ws_44 (G : Gw) (σ : Sg) (g : Nat → Int32) : (wd G σ).set 44 (G.1 44, .inl (G.2.1.1, 8, .inl g)) = wd G (setA σ 44 g) := rfl
theorem ws_45 (G : Gw) (σ : Sg) (g : Nat → Int32) : (wd G σ).set 45 (G.1 45, .inl (G.2.1.1, 1224, .inl g)) = wd G (setA σ 45 g) := rfl
theorem ws_46 (G : Gw) (σ : Sg) (g : Nat → Int32) : (wd G σ).set 46 (G.1 46, .inl (G.2.1.1, 24, .inl g)) = wd G (setA σ 46 g) := rfl
def tyL (G : Gw) : List (ClassId × FieldType) := [(G.2.1.1, .int), (G.2.1.2.1, .byte), (G.2.1.2.2.1, .boolean), (G.2.1.2.2.2, .long)]
def AA (G : Gw) (sz : Nat) : Nat → Prop := fun q => (∃ k, k < 48 ∧ q = G.1 k) ∨ sz ≤ q
theorem wd_addr (G : Gw) (σ : Sg) : (wd G σ).map (fun q => q.1) = (List.range 48).map G.1 := rfl
theorem wd_at (G : Gw) (σ : Sg) {k : Nat} {q : Nat × va_E} (h : (wd G σ)[k]? = some q) : k < 48 ∧ q.1 = G.1 k := by
  have h1 : ((wd G σ).map (fun q => q.1))[k]? = some q.1 := by rw [List.getElem?_map, h]; rfl
  rw [wd_addr, List.getElem?_map] at h1
  cases hk : (List.range 48)[k]? with
  | none => rw [hk] at h1; cases h1
  | some j =>
    rw [hk] at h1
    obtain ⟨hl, hj⟩ := List.getElem?_eq_some_iff.mp hk
    rw [List.getElem_range] at hj
    rw [List.length_range] at hl
    subst hj
    exact ⟨hl, (Option.some.inj h1).symm⟩
theorem wd_some (G : Gw) (σ : Sg) {k : Nat} (h : k < 48) : ∃ e, (wd G σ)[k]? = some (G.1 k, e) := by
  have hl : (wd G σ).length = 48 := rfl
  have h1 : (wd G σ)[k]? = some ((wd G σ)[k]'(by rw [hl]; exact h)) := List.getElem?_eq_getElem _
  have h2 := (wd_at G σ h1).2
  exact ⟨((wd G σ)[k]'(by rw [hl]; exact h)).2, by rw [h1, ← h2]⟩
/-- the addresses are apart: whatever the cells hold -/
theorem wd_D {G : Gw} {σ τ : Sg} {A B : Nat → Prop} (h : va_D A (wd G σ)) (hB : ∀ k, k < 48 → B (G.1 k)) : va_D B (wd G τ) := by
  refine ⟨fun i j p q hi hj e => ?_, fun k q hk => ?_⟩
  · obtain ⟨i1, i2⟩ := wd_at G τ hi
    obtain ⟨j1, j2⟩ := wd_at G τ hj
    obtain ⟨e1, h1⟩ := wd_some G σ i1
    obtain ⟨e2, h2⟩ := wd_some G σ j1
    exact h.1 i j _ _ h1 h2 (by show G.1 i = G.1 j; rw [← i2, ← j2]; exact e)
  · obtain ⟨k1, k2⟩ := wd_at G τ hk
    rw [k2]
    exact hB k k1
theorem AA.of {G : Gw} {sz k : Nat} (h : k < 48) : AA G sz (G.1 k) := Or.inl ⟨k, h, rfl⟩
/-- the world now, since the method began at s -/
def WK (G : Gw) (s : State) (H : Heap) (locs : List Loc) (σ : Sg) : Prop :=
  va_K G.2.2.1 vwCl (tyL G) s ∧ va_P G.2.2.1 vwCl (wd G σ) H ∧ va_D (AA G s.heap.size) (wd G σ) ∧ va_S (AA G s.heap.size) s.heap H locs
/-- the world at a method's end -/
def BE (G : Gw) (A : Nat → Prop) (u : Sg) (t : State) : Prop := va_P G.2.2.1 vwCl (wd G u) t.heap ∧ va_K G.2.2.1 vwCl (tyL G) t ∧ va_D A (wd G u)
def lenS : List Nat := [5, 4, 4, 4, 4, 5, 35]
def bytS : List (List Int32) := [[112, 108, 97, 99, 101], [114, 111, 97, 100], [116, 117, 114, 110], [109, 111, 118, 101], [98, 97, 99, 107], [116, 104, 101, 114, 101], [110, 111, 32, 115, 117, 99, 104, 32, 114, 111, 97, 100, 44, 32, 111, 114, 32, 110, 111, 116, 104, 105, 110, 103, 32, 115, 117, 99, 104, 32, 111, 102, 32, 105, 116]]
/-- what the tables say of the exception, beyond the words that ride -/
def ENw (U : State) : Prop := va_Nw (.declares (Bundle.initS zR)) U ∧ va_Nw (.declares (Bundle.initS zE)) U ∧ va_Nw (.declares (Bundle.initS Bundle.tN)) U ∧ va_Nw (.castable zN zN) U
theorem ENw.warm {s U : State} (h : ENw s) (hW : s.WarmedH U.vm) : ENw U := ⟨va_Nw.warmD hW h.1, va_Nw.warmD hW h.2.1, va_Nw.warmD hW h.2.2.1, va_Nw.warmC hW h.2.2.2⟩
theorem ENw.same {u U : State} (h : ENw u) (hv : U.vm = u.vm) : ENw U := ⟨va_Nw.same rfl hv.symm h.1, va_Nw.same rfl hv.symm h.2.1, va_Nw.same rfl hv.symm h.2.2.1, va_Nw.same rfl hv.symm h.2.2.2⟩
/-- what lies outside the world and stays: the String constants, the statics that are read -/
def EN (G : Gw) (A : Nat → Prop) (U : State) (H : Heap) : Prop :=
  vk_S 7 lenS bytS G.2.2.2.1 G.2.2.2.2 A U H ∧ va_Z "java/lang/String" "COMPACT_STRINGS" "Z" (.int 1) A U H ∧ vx_Zq Bundle.tN "UNASSIGNED_STACK" Bundle.steD A U H ∧ vx_Zq Bundle.tN "SUPPRESSED_SENTINEL" Bundle.listD A U H ∧ va_Zq "jdk/internal/util/Preconditions" "SIOOBE_FORMATTER" "Ljava/util/function/BiFunction;" A U H ∧ ENw U ∧
  (vk_R RX2 96 "place" (G.2.2.2.1 0) U ∧ vk_R RX2 102 "road" (G.2.2.2.1 1) U ∧ vk_R RX2 104 "turn" (G.2.2.2.1 2) U ∧ vk_R RX2 106 "move" (G.2.2.2.1 3) U ∧ vk_R RX2 119 "back" (G.2.2.2.1 4) U ∧ vk_R RX2 125 "there" (G.2.2.2.1 5) U ∧ vk_R RX5 134 "no such road, or nothing such of it" (G.2.2.2.1 6) U)
theorem EN.go {G : Gw} {A B : Nat → Prop} {s U : State} {H0 H : Heap} (h : EN G A s H0) (hW : s.WarmedH U.vm) (hq : ∀ a : Nat, a < H0.size → ¬ A a → H[a]? = H0[a]?) (hAB : ∀ q, B q → A q) : EN G B U H :=
  ⟨((h.1.kept hq).narrow hAB).moved hW.alike, ((h.2.1.kept hq).narrow hAB).moved hW.alike, ((h.2.2.1.kept hq).narrow hAB).moved hW.alike, ((h.2.2.2.1.kept hq).narrow hAB).moved hW.alike, ((h.2.2.2.2.1.kept hq).narrow hAB).moved hW.alike, h.2.2.2.2.2.1.warm hW,
    h.2.2.2.2.2.2.1.warm hW, h.2.2.2.2.2.2.2.1.warm hW, h.2.2.2.2.2.2.2.2.1.warm hW, h.2.2.2.2.2.2.2.2.2.1.warm hW, h.2.2.2.2.2.2.2.2.2.2.1.warm hW, h.2.2.2.2.2.2.2.2.2.2.2.1.warm hW, h.2.2.2.2.2.2.2.2.2.2.2.2.warm hW⟩
theorem EN.same {G : Gw} {A : Nat → Prop} {u U : State} {H : Heap} (h : EN G A u H) (hv : U.vm = u.vm) : EN G A U H := by
  have ha : u.vm.Alike U.vm := by rw [hv]; exact Vm.Alike.refl u.vm
  exact ⟨h.1.moved ha, h.2.1.moved ha, h.2.2.1.moved ha, h.2.2.2.1.moved ha, h.2.2.2.2.1.moved ha, h.2.2.2.2.2.1.same hv, h.2.2.2.2.2.2.1.same hv, h.2.2.2.2.2.2.2.1.same hv, h.2.2.2.2.2.2.2.2.1.same hv, h.2.2.2.2.2.2.2.2.2.1.same hv, h.2.2.2.2.2.2.2.2.2.2.1.same hv, h.2.2.2.2.2.2.2.2.2.2.2.1.same hv, h.2.2.2.2.2.2.2.2.2.2.2.2.same hv⟩
theorem EN.r0 {G : Gw} {A : Nat → Prop} {U : State} {H : Heap} (h : EN G A U H) : vk_R RX2 96 "place" (G.2.2.2.1 0) U := h.2.2.2.2.2.2.1
theorem EN.r1 {G : Gw} {A : Nat → Prop} {U : State} {H : Heap} (h : EN G A U H) : vk_R RX2 102 "road" (G.2.2.2.1 1) U := h.2.2.2.2.2.2.2.1
theorem EN.r2 {G : Gw} {A : Nat → Prop} {U : State} {H : Heap} (h : EN G A U H) : vk_R RX2 104 "turn" (G.2.2.2.1 2) U := h.2.2.2.2.2.2.2.2.1
theorem EN.r3 {G : Gw} {A : Nat → Prop} {U : State} {H : Heap} (h : EN G A U H) : vk_R RX2 106 "move" (G.2.2.2.1 3) U := h.2.2.2.2.2.2.2.2.2.1
theorem EN.r4 {G : Gw} {A : Nat → Prop} {U : State} {H : Heap} (h : EN G A U H) : vk_R RX2 119 "back" (G.2.2.2.1 4) U := h.2.2.2.2.2.2.2.2.2.2.1
theorem EN.r5 {G : Gw} {A : Nat → Prop} {U : State} {H : Heap} (h : EN G A U H) : vk_R RX2 125 "there" (G.2.2.2.1 5) U := h.2.2.2.2.2.2.2.2.2.2.2.1
theorem EN.r6 {G : Gw} {A : Nat → Prop} {U : State} {H : Heap} (h : EN G A U H) : vk_R RX5 134 "no such road, or nothing such of it" (G.2.2.2.1 6) U := h.2.2.2.2.2.2.2.2.2.2.2.2
/-- the world at its beginning -/
def PI (G : Gw) (σ : Sg) (sz : Nat) (U : State) : Prop := U.heap.size = sz ∧ va_P G.2.2.1 vwCl (wd G σ) U.heap ∧ va_K G.2.2.1 vwCl (tyL G) U ∧ va_D (fun _ => True) (wd G σ) ∧ EN G (AA G sz) U U.heap
def MetI (l : Launch) (y : MethodName) (ws : List Cond) (rm : Room) (G : Gw) (σ : Sg) (av : List Value) (Q : Int32 → Sg → Prop) : Prop :=
  ∀ sz, Met l y ws rm (va_Pc av (PI G σ sz)) (va_Qi Q (BE G (AA G sz)) (AA G sz)) 0 0 (AA G sz)
def MetV (l : Launch) (y : MethodName) (ws : List Cond) (rm : Room) (G : Gw) (σ : Sg) (av : List Value) (Q : Sg → Prop) : Prop :=
  ∀ sz, Met l y ws rm (va_Pc av (PI G σ sz)) (va_Qv Q (BE G (AA G sz)) (AA G sz)) 0 0 (AA G sz)
abbrev ZI (below : List Frame) (args : Array Value) (s : State) (G : Gw) (Q : Int32 → Sg → Prop) : State → Prop :=
  MQ below (va_Qi Q (BE G (AA G s.heap.size)) (AA G s.heap.size)) args s 0 0 (AA G s.heap.size)
abbrev ZV (below : List Frame) (args : Array Value) (s : State) (G : Gw) (Q : Sg → Prop) : State → Prop :=
  MQ below (va_Qv Q (BE G (AA G s.heap.size)) (AA G s.heap.size)) args s 0 0 (AA G s.heap.size)
/-- what holds all through a method -/
def KC (p : Program) (m : MethodId) (meth : Method) (c : Code) (cc : ByteArray) (nL : Nat) (s : State) (args : Array Value) (Ts : List Cond) (own : String) (ret : Option FieldType) (G : Gw) : Prop :=
  CallFix p m c cc nL s args Ts own ∧ meth.sig.returnType = ret ∧ meth.locks = false ∧ EN G (AA G s.heap.size) s s.heap
theorem PI.wk {G : Gw} {σ : Sg} {s : State} (h : PI G σ s.heap.size s) : WK G s s.heap [] σ :=
  ⟨h.2.2.1, h.2.1, wd_D h.2.2.2.1 (fun _ hk => AA.of hk), va_S.rf⟩
theorem PI.blind {av : List Value} {G : Gw} {σ : Sg} {sz : Nat} : FrameBlind (va_Pc av (PI G σ sz)) := fun a U g mk q => by
  obtain ⟨q0, q1, qP, qK, qD, qE⟩ := q
  exact ⟨q0, q1, qP, va_K.moved (u := U) (U := U.calling g mk a) (Vm.Alike.refl U.vm) qK, qD, EN.same (u := U) (U := U.calling g mk a) qE rfl⟩
theorem MetI.of {l : Launch} {y : MethodName} {ws ws' : List Cond} {rm : Room} {G : Gw} {σ : Sg} {av : List Value} {Q : Int32 → Sg → Prop} (cc : ByteArray) (maxL : Nat) (ret : Option FieldType)
    (hy : plainName y.cls = true) (hw : ws = Cond.code y cc maxL ret :: ws') (hn : (lg_sl av).length ≤ maxL)
    (body : ∀ (p : Program) (e : Env) (s : State) (m : MethodId) (below : List Frame) (meth : Method) (c : Code), KC p m meth c cc maxL s av.toArray ws y.cls ret G → WK G s s.heap [] σ → ∀ ls : Array Slot, lv_has ls maxL (lv_args 0 av) →
      W p l e rm s m av.toArray below meth c s.heap [] 0 0 (ZI below av.toArray s G Q) (F0 m 0 ls [])) : MetI l y ws rm G σ av Q := by
  intro sz
  refine Met.ofW (cc := cc) (maxL := maxL) (ret := ret) hy hw ?_
  intro p e s m args below meth c s₁ B hml hv
  obtain ⟨rfl, hP⟩ := hv
  have hsz := hP.1
  subst hsz
  rw [lg_entry_eq]
  exact body p e s m below meth c ⟨⟨B.exec, B.bytes, hml, findClass_of_methodNamed B.named, atoms_spec (ws := ws) B.pre⟩, B.returns, B.notSynchronized, hP.2.2.2.2⟩ hP.wk _ (lv_entry av hn)
theorem MetV.of {l : Launch} {y : MethodName} {ws ws' : List Cond} {rm : Room} {G : Gw} {σ : Sg} {av : List Value} {Q : Sg → Prop} (cc : ByteArray) (maxL : Nat) (ret : Option FieldType)
    (hy : plainName y.cls = true) (hw : ws = Cond.code y cc maxL ret :: ws') (hn : (lg_sl av).length ≤ maxL)
    (body : ∀ (p : Program) (e : Env) (s : State) (m : MethodId) (below : List Frame) (meth : Method) (c : Code), KC p m meth c cc maxL s av.toArray ws y.cls ret G → WK G s s.heap [] σ → ∀ ls : Array Slot, lv_has ls maxL (lv_args 0 av) →
      W p l e rm s m av.toArray below meth c s.heap [] 0 0 (ZV below av.toArray s G Q) (F0 m 0 ls [])) : MetV l y ws rm G σ av Q := by
  intro sz
  refine Met.ofW (cc := cc) (maxL := maxL) (ret := ret) hy hw ?_
  intro p e s m args below meth c s₁ B hml hv
  obtain ⟨rfl, hP⟩ := hv
  have hsz := hP.1
  subst hsz
  rw [lg_entry_eq]
  exact body p e s m below meth c ⟨⟨B.exec, B.bytes, hml, findClass_of_methodNamed B.named, atoms_spec (ws := ws) B.pre⟩, B.returns, B.notSynchronized, hP.2.2.2.2⟩ hP.wk _ (lv_entry av hn)
section KW
variable {p : Program} {l : Launch} {e : Env} {R : Room} {s : State} {m : MethodId} {args : Array Value} {below : List Frame} {meth : Method} {c : Code} {H : Heap} {locs : List Loc} {cells slots : Nat} {Z : State → Prop}
variable {cc : ByteArray} {pc nL : Nat} {ls : Array Slot} {rest : List Value} {G : Gw} {σ : Sg} {Ts : List Cond} {own : String} {ret : Option FieldType}
theorem k_iret {Q : Int32 → Sg → Prop} {v : Int32} (X : KC p m meth c cc nL s args Ts own (some .int) G) (hw : WK G s H locs σ) (hq : Q v σ) (hdg : decode cc pc = .ok (.ireturn, 1)) : W p l e R s m args below meth c H locs 0 0 (ZI below args s G Q) (F0 m pc ls [.int v]) := by
  obtain ⟨⟨hx, hb, -⟩, hr, hlocks, -⟩ := X
  exact W.iret hx hb hr (fun t ht hW => ⟨⟨v, σ, rfl, hq, by rw [ht]; exact hw.2.1, va_K.moved hW.alike hw.1, hw.2.2.1⟩, hw.2.2.2.F ht⟩) hw.2.2.2.2.2 hdg
theorem k_zret {Q : Int32 → Sg → Prop} {v : Int32} (X : KC p m meth c cc nL s args Ts own (some .boolean) G) (hw : WK G s H locs σ) (hq : bz v ∧ Q v σ) (hdg : decode cc pc = .ok (.ireturn, 1)) : W p l e R s m args below meth c H locs 0 0 (ZI below args s G Q) (F0 m pc ls [.int v]) := by
  obtain ⟨⟨hx, hb, -⟩, hr, hlocks, -⟩ := X
  exact W.zret hx hb hr (by rcases hq.1 with h | h <;> subst h <;> rfl) (fun t ht hW => ⟨⟨v, σ, rfl, hq.2, by rw [ht]; exact hw.2.1, va_K.moved hW.alike hw.1, hw.2.2.1⟩, hw.2.2.2.F ht⟩) hw.2.2.2.2.2 hdg
theorem k_vret {Q : Sg → Prop} (X : KC p m meth c cc nL s args Ts own none G) (hw : WK G s H locs σ) (hq : Q σ) (hdg : decode cc pc = .ok (.return_, 1)) : W p l e R s m args below meth c H locs 0 0 (ZV below args s G Q) (F0 m pc ls []) := by
  obtain ⟨⟨hx, hb, -⟩, hr, hlocks, -⟩ := X
  exact W.vret hx hb hr (fun t ht hW => ⟨⟨σ, rfl, hq, by rw [ht]; exact hw.2.1, va_K.moved hW.alike hw.1, hw.2.2.1⟩, hw.2.2.2.F ht⟩) hw.2.2.2.2.2 hdg
/-- getfield -/
theorem k_get {C : String} {T : u_T} {N ci index a k : Nat} {fs : List Value} (j : Nat) {v : Value} (X : KC p m meth c cc nL s args Ts own ret G) (hw : WK G s H locs σ) (he : (wd G σ)[k]? = some (a, .inr (ci, fs))) (hc : vwCl[ci]? = some (C, T, N)) (hin : ∀ w ∈ u_ws C T N, w ∈ Ts) (hj : j < N) (hlink : Cond.fieldLink own index (T j).1 (T j).2.1 (T j).2.2.1 ∈ Ts) (hv : fs[j]? = some v) (hdg : decode cc pc = .ok (.getfield index, 3))
    (kk : W p l e R s m args below meth c H locs cells slots Z (F0 m (pc + 3) ls (v :: rest))) : W p l e R s m args below meth c H locs cells slots Z (F0 m pc ls (.ref a :: rest)) := by
  obtain ⟨⟨hx, hb, hml, hown, hts⟩, hr, hlocks, hen⟩ := X
  exact va_get hx hb hts hin hown hw.1 hw.2.1 k he hc j hj (hts _ hlink) (fun _ h => h) hv hdg kk
/-- putfield of an int -/
theorem k_put {C : String} {T : u_T} {N ci index a k : Nat} {fs : List Value} (j : Nat) {v : Int32} {tyF : Nat → FieldType} (X : KC p m meth c cc nL s args Ts own ret G) (hw : WK G s H locs σ) (he : (wd G σ)[k]? = some (a, .inr (ci, fs))) (hc : vwCl[ci]? = some (C, T, N)) (hin : ∀ w ∈ u_ws C T N, w ∈ Ts) (hty : ∀ k, k < N → parseFieldDescriptor (T k).2.2.1 = some (tyF k)) (hnm : ∀ a, a < N → ∀ b, b < N → a ≠ b → (T a).2.1 ≠ (T b).2.1) (hj : j < N) (hlink : Cond.fieldLink own index (T j).1 (T j).2.1 (T j).2.2.1 ∈ Ts) (hfin : (T j).2.2.2 = false) (hd : tyF j = .int) (hl : j < fs.length)
    (hset : (wd G σ).set k (a, .inr (ci, fs.set j (.int v))) = wd G (put σ k j v)) (hdg : decode cc pc = .ok (.putfield index, 3))
    (kk : ∀ (H : Heap) (locs : List Loc), WK G s H locs (put σ k j v) → W p l e R s m args below meth c H locs cells slots Z (F0 m (pc + 3) ls rest)) : W p l e R s m args below meth c H locs cells slots Z (F0 m pc ls (.int v :: .ref a :: rest)) := by
  obtain ⟨⟨hx, hb, hml, hown, hts⟩, hr, hlocks, hen⟩ := X
  refine va_put (ty := .int) hx hb hts hin tyF hty hnm hown hw.1 hw.2.1 hw.2.2.1 hw.2.2.2 k he hc j hj (hts _ hlink) (fun _ h => h) hfin (by rw [hty j hj, hd]) rfl rfl hl hdg (fun H1 locs1 hP hD hS => ?_)
  rw [hset] at hP hD
  exact kk H1 locs1 ⟨hw.1, hP, hD, hS⟩
/-- putfield of a boolean -/
theorem k_putz {C : String} {T : u_T} {N ci index a k : Nat} {fs : List Value} (j : Nat) {v : Int32} {tyF : Nat → FieldType} (X : KC p m meth c cc nL s args Ts own ret G) (hw : WK G s H locs σ) (he : (wd G σ)[k]? = some (a, .inr (ci, fs))) (hc : vwCl[ci]? = some (C, T, N)) (hin : ∀ w ∈ u_ws C T N, w ∈ Ts) (hty : ∀ k, k < N → parseFieldDescriptor (T k).2.2.1 = some (tyF k)) (hnm : ∀ a, a < N → ∀ b, b < N → a ≠ b → (T a).2.1 ≠ (T b).2.1) (hj : j < N) (hlink : Cond.fieldLink own index (T j).1 (T j).2.1 (T j).2.2.1 ∈ Ts) (hfin : (T j).2.2.2 = false) (hd : tyF j = .boolean) (hl : j < fs.length) (hz : bz v)
    (hset : (wd G σ).set k (a, .inr (ci, fs.set j (.int v))) = wd G (put σ k j v)) (hdg : decode cc pc = .ok (.putfield index, 3))
    (kk : ∀ (H : Heap) (locs : List Loc), WK G s H locs (put σ k j v) → W p l e R s m args below meth c H locs cells slots Z (F0 m (pc + 3) ls rest)) : W p l e R s m args below meth c H locs cells slots Z (F0 m pc ls (.int v :: .ref a :: rest)) := by
  obtain ⟨⟨hx, hb, hml, hown, hts⟩, hr, hlocks, hen⟩ := X
  refine va_put (ty := .boolean) hx hb hts hin tyF hty hnm hown hw.1 hw.2.1 hw.2.2.1 hw.2.2.2 k he hc j hj (hts _ hlink) (fun _ h => h) hfin (by rw [hty j hj, hd]) (by rcases hz with h | h <;> subst h <;> rfl) (by rcases hz with h | h <;> subst h <;> rfl) hl hdg (fun H1 locs1 hP hD hS => ?_)
  rw [hset] at hP hD
  exact kk H1 locs1 ⟨hw.1, hP, hD, hS⟩
theorem k_iald {a k n : Nat} {f : Nat → Int32} {i : Int32} (X : KC p m meth c cc nL s args Ts own ret G) (hw : WK G s H locs σ) (he : (wd G σ)[k]? = some (a, .inl (G.2.1.1, n, .inl f))) (hi : vp_in i n) (hdg : decode cc pc = .ok (.iaload, 1))
    (kk : W p l e R s m args below meth c H locs cells slots Z (F0 m (pc + 1) ls (.int (f i.toNatClampNeg) :: rest))) : W p l e R s m args below meth c H locs cells slots Z (F0 m pc ls (.int i :: .ref a :: rest)) :=
  va_iald X.1.1 X.1.2.1 hw.1 hw.2.1 k 0 he rfl hi hdg kk
theorem k_bald {a k n : Nat} {f : Nat → Int32} {i : Int32} (X : KC p m meth c cc nL s args Ts own ret G) (hw : WK G s H locs σ) (he : (wd G σ)[k]? = some (a, .inl (G.2.1.2.1, n, .inl f))) (hi : vp_in i n) (hdg : decode cc pc = .ok (.baload, 1))
    (kk : W p l e R s m args below meth c H locs cells slots Z (F0 m (pc + 1) ls (.int (f i.toNatClampNeg) :: rest))) : W p l e R s m args below meth c H locs cells slots Z (F0 m pc ls (.int i :: .ref a :: rest)) :=
  va_bald X.1.1 X.1.2.1 hw.1 hw.2.1 k 1 he rfl hi hdg kk
theorem k_zald {a k n : Nat} {f : Nat → Int32} {i : Int32} (X : KC p m meth c cc nL s args Ts own ret G) (hw : WK G s H locs σ) (he : (wd G σ)[k]? = some (a, .inl (G.2.1.2.2.1, n, .inl f))) (hi : vp_in i n) (hdg : decode cc pc = .ok (.baload, 1))
    (kk : W p l e R s m args below meth c H locs cells slots Z (F0 m (pc + 1) ls (.int (f i.toNatClampNeg) :: rest))) : W p l e R s m args below meth c H locs cells slots Z (F0 m pc ls (.int i :: .ref a :: rest)) :=
  va_zald X.1.1 X.1.2.1 hw.1 hw.2.1 k 2 he rfl hi hdg kk
theorem k_iast {a k n : Nat} {f : Nat → Int32} {i x : Int32} (X : KC p m meth c cc nL s args Ts own ret G) (hw : WK G s H locs σ) (he : (wd G σ)[k]? = some (a, .inl (G.2.1.1, n, .inl f))) (hset : ∀ g, (wd G σ).set k (a, .inl (G.2.1.1, n, .inl g)) = wd G (setA σ k g)) (hf : f = σ k) (hi : vp_in i n) (hdg : decode cc pc = .ok (.iastore, 1))
    (kk : ∀ (H : Heap) (locs : List Loc), WK G s H locs (put σ k i.toNatClampNeg x) → W p l e R s m args below meth c H locs cells slots Z (F0 m (pc + 1) ls rest)) : W p l e R s m args below meth c H locs cells slots Z (F0 m pc ls (.int x :: .int i :: .ref a :: rest)) := by
  subst hf
  refine va_iast X.1.1 X.1.2.1 hw.1 hw.2.1 hw.2.2.1 hw.2.2.2 k 0 he rfl hi hdg (fun H1 locs1 hP hD hS => ?_)
  rw [hset] at hP hD
  exact kk H1 locs1 ⟨hw.1, hP, hD, hS⟩
theorem k_bast {a k n : Nat} {f : Nat → Int32} {i x : Int32} (X : KC p m meth c cc nL s args Ts own ret G) (hw : WK G s H locs σ) (he : (wd G σ)[k]? = some (a, .inl (G.2.1.2.1, n, .inl f))) (hset : ∀ g, (wd G σ).set k (a, .inl (G.2.1.2.1, n, .inl g)) = wd G (setA σ k g)) (hf : f = σ k) (hi : vp_in i n) (hdg : decode cc pc = .ok (.bastore, 1))
    (kk : ∀ (H : Heap) (locs : List Loc), WK G s H locs (put σ k i.toNatClampNeg (vp_nar .byte x)) → W p l e R s m args below meth c H locs cells slots Z (F0 m (pc + 1) ls rest)) : W p l e R s m args below meth c H locs cells slots Z (F0 m pc ls (.int x :: .int i :: .ref a :: rest)) := by
  subst hf
  refine va_bast X.1.1 X.1.2.1 hw.1 hw.2.1 hw.2.2.1 hw.2.2.2 k 1 he rfl hi hdg (fun H1 locs1 hP hD hS => ?_)
  rw [hset] at hP hD
  exact kk H1 locs1 ⟨hw.1, hP, hD, hS⟩
theorem k_zast {a k n : Nat} {f : Nat → Int32} {i x : Int32} (X : KC p m meth c cc nL s args Ts own ret G) (hw : WK G s H locs σ) (he : (wd G σ)[k]? = some (a, .inl (G.2.1.2.2.1, n, .inl f))) (hset : ∀ g, (wd G σ).set k (a, .inl (G.2.1.2.2.1, n, .inl g)) = wd G (setA σ k g)) (hf : f = σ k) (hi : vp_in i n) (hdg : decode cc pc = .ok (.bastore, 1))
    (kk : ∀ (H : Heap) (locs : List Loc), WK G s H locs (put σ k i.toNatClampNeg (vp_nar .boolean x)) → W p l e R s m args below meth c H locs cells slots Z (F0 m (pc + 1) ls rest)) : W p l e R s m args below meth c H locs cells slots Z (F0 m pc ls (.int x :: .int i :: .ref a :: rest)) := by
  subst hf
  refine va_zast X.1.1 X.1.2.1 hw.1 hw.2.1 hw.2.2.1 hw.2.2.2 k 2 he rfl hi hdg (fun H1 locs1 hP hD hS => ?_)
  rw [hset] at hP hD
  exact kk H1 locs1 ⟨hw.1, hP, hD, hS⟩
theorem AA.up {G : Gw} {a b : Nat} (h : a ≤ b) {q : Nat} (hq : AA G b q) : AA G a q := hq.elim Or.inl (fun z => Or.inr (Nat.le_trans h z))
theorem k_wk1 {G : Gw} {s t : State} {H1 : Heap} {locs1 : List Loc} {u : Sg} {sz : Nat} (hK : va_K G.2.2.1 vwCl (tyL G) s) (ht : t.heap = H1) (hB : BE G (AA G sz) u t) (hS : va_S (AA G s.heap.size) s.heap H1 locs1) : WK G s H1 locs1 u :=
  ⟨hK, by rw [← ht]; exact hB.1, wd_D hB.2.2 (fun _ hk => AA.of hk), hS⟩
theorem k_pi {G : Gw} {s U : State} {H : Heap} {locs : List Loc} {σ : Sg} {av : List Value} (hen : EN G (AA G s.heap.size) s s.heap) (hw : WK G s H locs σ) (hU : U.heap = H) (hW : s.WarmedH U.vm) : va_Pc av (PI G σ H.size) av.toArray U :=
  ⟨rfl, by rw [hU], by rw [hU]; exact hw.2.1, va_K.moved hW.alike hw.1, wd_D hw.2.2.1 (fun _ _ => trivial), by rw [hU]; exact hen.go hW hw.2.2.2.2.1 (fun _ h => AA.up hw.2.2.2.1 h)⟩
/-- a call of an object's method that answers an int -/
theorem k_callVi {y : MethodName} {ws : List Cond} {rm : Room} {Q1 : Int32 → Sg → Prop} {C : String} {T : u_T} {N ci index n b k maxL : Nat} {bytes : ByteArray} {rt : Option FieldType} {fs st : List Value} {As : List Value} (X : KC p m meth c cc nL s args Ts own ret G) (hw : WK G s H locs σ) (hM : MetI l y ws rm G σ (.ref b :: As) Q1) (cw : CallW R s args own C index y bytes maxL rt ws rm 0 0 n)
    (he : (wd G σ)[k]? = some (b, .inr (ci, fs))) (hc : vwCl[ci]? = some (C, T, N)) (hn : As.length = n) (hl : ls.size = nL) (hst : st = As.reverse ++ .ref b :: rest) (hroom : (rest.map fun v => v.category).sum ≤ 8) (hdg : decode cc pc = .ok (.invokevirtual index, 3)) (hf : cells ≤ R.cells ∧ slots ≤ R.slots)
    (kk : ∀ (r : Int32) (σ : Sg) (H : Heap) (locs : List Loc), Q1 r σ → WK G s H locs σ → W p l e R s m args below meth c H locs cells slots Z (F0 m (pc + 3) ls (.int r :: rest))) : W p l e R s m args below meth c H locs cells slots Z (F0 m pc ls st) :=
  va_calli (va_runV (As := As) (rest := rest) X.1 (hM H.size) cw ⟨PI.blind, va_recv hw.1 hw.2.1 hc he, fun U hU hW => k_pi X.2.2.2 hw hU hW⟩ rfl hn hl hst (lv_room hroom) hdg hf) hw.2.2.2 (fun q _ h => AA.up hw.2.2.2.1 h) (fun q h => AA.up hw.2.2.2.1 h)
    (fun r u t H1 locs1 ht hvm hq hB hz hk hS => kk r u H1 locs1 hq (k_wk1 hw.1 ht hB hS))
theorem k_callVv {y : MethodName} {ws : List Cond} {rm : Room} {Q1 : Sg → Prop} {C : String} {T : u_T} {N ci index n b k maxL : Nat} {bytes : ByteArray} {rt : Option FieldType} {fs st : List Value} {As : List Value} (X : KC p m meth c cc nL s args Ts own ret G) (hw : WK G s H locs σ) (hM : MetV l y ws rm G σ (.ref b :: As) Q1) (cw : CallW R s args own C index y bytes maxL rt ws rm 0 0 n)
    (he : (wd G σ)[k]? = some (b, .inr (ci, fs))) (hc : vwCl[ci]? = some (C, T, N)) (hn : As.length = n) (hl : ls.size = nL) (hst : st = As.reverse ++ .ref b :: rest) (hroom : (rest.map fun v => v.category).sum ≤ 8) (hdg : decode cc pc = .ok (.invokevirtual index, 3)) (hf : cells ≤ R.cells ∧ slots ≤ R.slots)
    (kk : ∀ (σ : Sg) (H : Heap) (locs : List Loc), Q1 σ → WK G s H locs σ → W p l e R s m args below meth c H locs cells slots Z (F0 m (pc + 3) ls rest)) : W p l e R s m args below meth c H locs cells slots Z (F0 m pc ls st) :=
  va_callv (va_runV (As := As) (rest := rest) X.1 (hM H.size) cw ⟨PI.blind, va_recv hw.1 hw.2.1 hc he, fun U hU hW => k_pi X.2.2.2 hw hU hW⟩ rfl hn hl hst (lv_room hroom) hdg hf) hw.2.2.2 (fun q _ h => AA.up hw.2.2.2.1 h) (fun q h => AA.up hw.2.2.2.1 h)
    (fun u t H1 locs1 ht hvm hq hB hz hk hS => kk u H1 locs1 hq (k_wk1 hw.1 ht hB hS))
theorem k_callSi {y : MethodName} {ws : List Cond} {rm : Room} {Q1 : Int32 → Sg → Prop} {index n maxL : Nat} {bytes : ByteArray} {rt : Option FieldType} {st : List Value} {As : List Value} (X : KC p m meth c cc nL s args Ts own ret G) (hw : WK G s H locs σ) (hM : MetI l y ws rm G σ As Q1) (cw : CallB R s args own index y bytes maxL rt ws rm 0 0 n ∧ (Cond.static y).before args s = true)
    (hn : As.length = n) (hl : ls.size = nL) (hst : st = As.reverse ++ rest) (hroom : (rest.map fun v => v.category).sum ≤ 8) (hdg : decode cc pc = .ok (.invokestatic index, 3)) (hf : cells ≤ R.cells ∧ slots ≤ R.slots)
    (kk : ∀ (r : Int32) (σ : Sg) (H : Heap) (locs : List Loc), Q1 r σ → WK G s H locs σ → W p l e R s m args below meth c H locs cells slots Z (F0 m (pc + 3) ls (.int r :: rest))) : W p l e R s m args below meth c H locs cells slots Z (F0 m pc ls st) :=
  va_calli (va_runS (As := As) (rest := rest) X.1 (hM H.size) cw ⟨PI.blind, fun U hU hW => k_pi X.2.2.2 hw hU hW⟩ rfl hn hl hst (lv_room hroom) hdg hf) hw.2.2.2 (fun q _ h => AA.up hw.2.2.2.1 h) (fun q h => AA.up hw.2.2.2.1 h)
    (fun r u t H1 locs1 ht hvm hq hB hz hk hS => kk r u H1 locs1 hq (k_wk1 hw.1 ht hB hS))
theorem k_callSv {y : MethodName} {ws : List Cond} {rm : Room} {Q1 : Sg → Prop} {index n maxL : Nat} {bytes : ByteArray} {rt : Option FieldType} {st : List Value} {As : List Value} (X : KC p m meth c cc nL s args Ts own ret G) (hw : WK G s H locs σ) (hM : MetV l y ws rm G σ As Q1) (cw : CallB R s args own index y bytes maxL rt ws rm 0 0 n ∧ (Cond.static y).before args s = true)
    (hn : As.length = n) (hl : ls.size = nL) (hst : st = As.reverse ++ rest) (hroom : (rest.map fun v => v.category).sum ≤ 8) (hdg : decode cc pc = .ok (.invokestatic index, 3)) (hf : cells ≤ R.cells ∧ slots ≤ R.slots)
    (kk : ∀ (σ : Sg) (H : Heap) (locs : List Loc), Q1 σ → WK G s H locs σ → W p l e R s m args below meth c H locs cells slots Z (F0 m (pc + 3) ls rest)) : W p l e R s m args below meth c H locs cells slots Z (F0 m pc ls st) :=
  va_callv (va_runS (As := As) (rest := rest) X.1 (hM H.size) cw ⟨PI.blind, fun U hU hW => k_pi X.2.2.2 hw hU hW⟩ rfl hn hl hst (lv_room hroom) hdg hf) hw.2.2.2 (fun q _ h => AA.up hw.2.2.2.1 h) (fun q h => AA.up hw.2.2.2.1 h)
    (fun u t H1 locs1 ht hvm hq hB hz hk hS => kk u H1 locs1 hq (k_wk1 hw.1 ht hB hS))
theorem k_nret {Q : Int32 → Sg → Prop} {v : Int32} {ty : FieldType} (X : KC p m meth c cc nL s args Ts own (some ty) G) (hw : WK G s H locs σ) (hn : narrow ty (.int v) = .int v) (hq : Q v σ) (hdg : decode cc pc = .ok (.ireturn, 1)) : W p l e R s m args below meth c H locs 0 0 (ZI below args s G Q) (F0 m pc ls [.int v]) := by
  obtain ⟨⟨hx, hb, -⟩, hr, hlocks, -⟩ := X
  exact W.zret hx hb hr hn (fun t ht hW => ⟨⟨v, σ, rfl, hq, by rw [ht]; exact hw.2.1, va_K.moved hW.alike hw.1, hw.2.2.1⟩, hw.2.2.2.F ht⟩) hw.2.2.2.2.2 hdg
/-- a call of a String constant's method -/
theorem k_callTi {y : MethodName} {ws : List Cond} {rm : Room} {Q1 : Int32 → Sg → Prop} {C : String} {index n b maxL : Nat} {bytes : ByteArray} {rt : Option FieldType} {st : List Value} {As : List Value} (X : KC p m meth c cc nL s args Ts own ret G) (hw : WK G s H locs σ) (hM : MetI l y ws rm G σ (.ref b :: As) Q1) (cw : CallW R s args own C index y bytes maxL rt ws rm 0 0 n)
    (hrecv : ∃ cell : Cell, H[b]? = some cell ∧ cell.vm.isStatics = false ∧ s.vm.findClass C = some cell.cls) (hn : As.length = n) (hl : ls.size = nL) (hst : st = As.reverse ++ .ref b :: rest) (hroom : (rest.map fun v => v.category).sum ≤ 8) (hdg : decode cc pc = .ok (.invokevirtual index, 3)) (hf : cells ≤ R.cells ∧ slots ≤ R.slots)
    (kk : ∀ (r : Int32) (σ : Sg) (H : Heap) (locs : List Loc), Q1 r σ → WK G s H locs σ → W p l e R s m args below meth c H locs cells slots Z (F0 m (pc + 3) ls (.int r :: rest))) : W p l e R s m args below meth c H locs cells slots Z (F0 m pc ls st) :=
  va_calli (va_runV (As := As) (rest := rest) X.1 (hM H.size) cw ⟨PI.blind, hrecv, fun U hU hW => k_pi X.2.2.2 hw hU hW⟩ rfl hn hl hst (lv_room hroom) hdg hf) hw.2.2.2 (fun q _ h => AA.up hw.2.2.2.1 h) (fun q h => AA.up hw.2.2.2.1 h)
    (fun r u t H1 locs1 ht hvm hq hB hz hk hS => kk r u H1 locs1 hq (k_wk1 hw.1 ht hB hS))
def k_cpyok (sp dp n : Int32) (n0 n1 : Nat) : Prop := ¬ sp < 0 ∧ ¬ dp < 0 ∧ ¬ n < 0 ∧ sp.toNatClampNeg + n.toNatClampNeg ≤ n0 ∧ dp.toNatClampNeg + n.toNatClampNeg ≤ n1
theorem k_copy {a0 a k0 k1 n0 n1 index : Nat} {f g : Nat → Int32} {sp dp n : Int32} (X : KC p m meth c cc nL s args Ts own ret G) (hw : WK G s H locs σ) (hl : ls.size = nL) (h1 : Cond.methodLink own index arraycopyName ∈ Ts) (h2 : Cond.native arraycopyName ∈ Ts) (h3 : Cond.static arraycopyName ∈ Ts) (h4 : Cond.initialized "java/lang/System" ∈ Ts)
    (he0 : (wd G σ)[k0]? = some (a0, .inl (G.2.1.1, n0, .inl f))) (he1 : (wd G σ)[k1]? = some (a, .inl (G.2.1.1, n1, .inl g))) (hset : ∀ g, (wd G σ).set k1 (a, .inl (G.2.1.1, n1, .inl g)) = wd G (setA σ k1 g)) (hok : k_cpyok sp dp n n0 n1) (hframes : 1 ≤ R.frames) (hlocals : (rest.map fun v => v.category).sum + (nativeFrameWords "java/lang/System" "arraycopy" 5 + 11) ≤ R.locals) (hdg : decode cc pc = .ok (.invokestatic index, 3))
    (kk : ∀ (H : Heap) (locs : List Loc), WK G s H locs (setA σ k1 (va_cpy f g sp.toNatClampNeg dp.toNatClampNeg n.toNatClampNeg)) → W p l e R s m args below meth c H locs cells slots Z (F0 m (pc + 3) ls rest)) : W p l e R s m args below meth c H locs cells slots Z (F0 m pc ls (.int n :: .int dp :: .ref a :: .int sp :: .ref a0 :: rest)) := by
  obtain ⟨⟨hx, hb, hml, hown, hts⟩, hr, hlocks, hen⟩ := X
  refine va_copyi (ty := .int) hx hb (hml.trans hl.symm) hown (hts _ h1) (hts _ h2) (hts _ h3) (hts _ h4) hw.1 hw.2.1 hw.2.2.1 hw.2.2.2 k0 k1 0 0 he0 he1 rfl rfl rfl hok.1 hok.2.1 hok.2.2.1 hok.2.2.2.1 hok.2.2.2.2 (fun _ _ => rfl) hframes hlocals hdg (fun H1 locs1 hP hD hS => ?_)
  rw [hset] at hP hD
  exact kk H1 locs1 ⟨hw.1, hP, hD, hS⟩
end KW
def k_fillf (n : Nat) (v : Int32) (f : Nat → Int32) : Nat → Int32 := fun j => if j < n then v else f j
abbrev wz_J7_fill_53178 : List Cond := Cond.code yJ7_fill_53178 cJ7_fill_53178 4 none :: wsA
def rm_J7_fill_53178 : Room := { frames := 0, cells := 0, slots := 0, locals := 0 }
theorem k_fill1 (τ : Sg) (k i : Nat) (v : Int32) : put (setA τ k (k_fillf i v (τ k))) k i v = setA τ k (k_fillf (i + 1) v (τ k)) := by
  funext b j
  by_cases hb : b = k
  · subst hb
    by_cases hj : j = i
    · subst hj
      simp [put, setA, upd, k_fillf]
    · have h1 : (j < i + 1) ↔ (j < i) := by omega
      simp [put, setA, upd, k_fillf, hj, h1]
  · simp [put, setA, hb]
set_option maxHeartbeats 4000000 in
theorem t_fill {p : Program} {l : Launch} {e : Env} {s : State} {m : MethodId} {args : Array Value} {below : List Frame} {meth : Method} {c : Code} {G : Gw} (X : KC p m meth c cJ7_fill_53178 4 s args wz_J7_fill_53178 RJ7 none G) (k n : Nat) (hg : ∀ σ, (wd G σ)[k]? = some (G.1 k, .inl (G.2.1.1, n, .inl (σ k)))) (hs : ∀ σ g, (wd G σ).set k (G.1 k, .inl (G.2.1.1, n, .inl g)) = wd G (setA σ k g)) (hn : n < 2147483648) (v : Int32) (Q : Sg → Prop) (τ : Sg) (hq : Q (setA τ k (k_fillf n v (τ k)))) :
    ∀ (r i : Nat), i + r = n → ∀ (H : Heap) (locs : List Loc) (ls : Array Slot), WK G s H locs (setA τ k (k_fillf i v (τ k))) → lv_has ls 4 [(0, .ref (G.1 k)), (1, .int v), (2, .int (nI i)), (3, .int (nI n))] → W p l e rm_J7_fill_53178 s m args below meth c H locs 0 0 (ZV below args s G Q) (F0 m 5 ls []) := by
  have hx := X.1.1
  have hb := X.1.2.1
  intro r
  induction r with
  | zero =>
    intro i hi H locs ls hk hl
    have hi : i = n := by omega
    subst hi
    refine lv_iload_n hx hb dJ7_fill_53178_5 rfl (lv_at hl 2 rfl) ?_
    refine lv_iload_n hx hb dJ7_fill_53178_6 rfl (lv_at hl 3 rfl) ?_
    refine lv_icmp_ge (tgt := 20) hx hb dJ7_fill_53178_7 (by decide) (fun c1 => ?_) (fun c1 => ?_)
    · exact k_vret X hk hq dJ7_fill_53178_20
    · exact absurd (nI_le (Nat.le_refl _) hn) c1
  | succ r ih =>
    intro i hi H locs ls hk hl
    refine lv_iload_n hx hb dJ7_fill_53178_5 rfl (lv_at hl 2 rfl) ?_
    refine lv_iload_n hx hb dJ7_fill_53178_6 rfl (lv_at hl 3 rfl) ?_
    refine lv_icmp_ge (tgt := 20) hx hb dJ7_fill_53178_7 (by decide) (fun c1 => ?_) (fun c1 => ?_)
    · exact absurd c1 (nI_ge (by omega) hn)
    · refine lv_aload_n hx hb dJ7_fill_53178_10 rfl (lv_at hl 0 rfl) ?_
      refine lv_iload_n hx hb dJ7_fill_53178_11 rfl (lv_at hl 2 rfl) ?_
      refine lv_iload_n hx hb dJ7_fill_53178_12 rfl (lv_at hl 1 rfl) ?_
      refine k_iast X hk (hg _) (hs _) rfl (vp_in_nI (by omega) hn) dJ7_fill_53178_13 (fun H locs hk => ?_)
      rw [nI_clamp (by omega), k_fill1] at hk
      refine lv_iinc (v := nI (i + 1)) (lv' := [(2, .int (nI (i + 1))), (0, .ref (G.1 k)), (1, .int v), (3, .int (nI n))]) hx hb dJ7_fill_53178_14 hl (k := 2) rfl (nI_1 i) (Nat.le_of_ble_eq_true rfl) rfl (fun ls hl => ?_)
      refine lv_goto (tgt := 5) hx hb dJ7_fill_53178_17 (by decide) ?_
      exact ih (i + 1) (by omega) H locs ls hk (lv_sub hl [1, 2, 0, 3] rfl)
set_option maxHeartbeats 4000000 in
/-- Arrays.fill(int[], int) on one of the world's rows -/
theorem c_fill (l : Launch) (G : Gw) (σ : Sg) (k n : Nat) (hg : ∀ σ, (wd G σ)[k]? = some (G.1 k, .inl (G.2.1.1, n, .inl (σ k)))) (hs : ∀ σ g, (wd G σ).set k (G.1 k, .inl (G.2.1.1, n, .inl g)) = wd G (setA σ k g)) (hn : n < 2147483648) (v : Int32) (Q : Sg → Prop) (hq : Q (setA σ k (k_fillf n v (σ k)))) : MetV l yJ7_fill_53178 wz_J7_fill_53178 rm_J7_fill_53178 G σ [.ref (G.1 k), .int v] Q := by
  refine MetV.of cJ7_fill_53178 4 none (by decide) rfl (Nat.le_of_ble_eq_true rfl) ?_
  intro p e s m below meth c X hk ls hl
  have X : KC p m meth c cJ7_fill_53178 4 s _ wz_J7_fill_53178 RJ7 none G := X
  have hl : lv_has ls 4 [(0, .ref (G.1 k)), (1, .int v)] := hl
  have hx := X.1.1
  have hb := X.1.2.1
  refine lv_iconst (v := nI 0) hx hb dJ7_fill_53178_0 (by decide) ?_
  refine lv_istore_n (lv' := [(2, .int (nI 0)), (0, .ref (G.1 k)), (1, .int v)]) hx hb dJ7_fill_53178_1 rfl hl (Nat.le_of_ble_eq_true rfl) rfl (fun ls hl => ?_)
  refine lv_aload_n hx hb dJ7_fill_53178_2 rfl (lv_at hl 1 rfl) ?_
  refine va_alen hx hb hk.1 hk.2.1 k 0 (hg _) rfl (v := nI n) rfl dJ7_fill_53178_3 ?_
  refine lv_istore_n (lv' := [(3, .int (nI n)), (2, .int (nI 0)), (0, .ref (G.1 k)), (1, .int v)]) hx hb dJ7_fill_53178_4 rfl hl (Nat.le_of_ble_eq_true rfl) rfl (fun ls hl => ?_)
  have h0 : setA σ k (k_fillf 0 v (σ k)) = σ := by
    funext b j
    by_cases hb : b = k
    · subst hb
      simp [setA, k_fillf]
    · simp [setA, hb]
  exact t_fill X k n hg hs hn v Q σ hq n 0 (by omega) _ _ ls (by rw [h0]; exact hk) (lv_sub hl [2, 3, 1, 0] rfl)
