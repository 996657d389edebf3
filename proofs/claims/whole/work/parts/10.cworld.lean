def cf0 (a : Nat → Nat) (q1 q2 : Nat) (S : St) : List Value := [.ref (a 1), .ref (a 3), .ref (a 4), .ref (a 5), .ref (a 8), .ref (a 15), .ref (a 22), .ref (a 26), .ref (a 28), .ref (a 38), .ref (a 48), .ref (a 50), .int (S.1 0 12)]
def cf1 (a : Nat → Nat) (q1 q2 : Nat) (S : St) : List Value := [.ref (a 2), .int (S.1 1 1), .int (S.1 1 2), .int (S.1 1 3)]
def cf3 (a : Nat → Nat) (q1 q2 : Nat) (S : St) : List Value := [.long (S.2 3 0), .long (S.2 3 1), .long (S.2 3 2), .long (S.2 3 3), .long (S.2 3 4), .int (S.1 3 5), .int (S.1 3 6), .int (S.1 3 7)]
def cf4 (a : Nat → Nat) (q1 q2 : Nat) (S : St) : List Value := [.long (S.2 4 0), .int (S.1 4 1), .int (S.1 4 2), .int (S.1 4 3), .int (S.1 4 4)]
def cf5 (a : Nat → Nat) (q1 q2 : Nat) (S : St) : List Value := [.ref (a 6), .ref (a 7), .int (S.1 5 2)]
def cf8 (a : Nat → Nat) (q1 q2 : Nat) (S : St) : List Value := [.ref (a 9), .ref (a 10), .ref (a 11), .ref (a 12), .int (S.1 8 4), .ref (a 13), .ref (a 14)]
def cf15 (a : Nat → Nat) (q1 q2 : Nat) (S : St) : List Value := [.ref (a 16), .ref (a 17), .ref (a 18), .int (S.1 15 3), .ref (a 19), .ref (a 20), .ref (a 21)]
def cf22 (a : Nat → Nat) (q1 q2 : Nat) (S : St) : List Value := [.ref (a 23), .ref (a 24), .int (S.1 22 2), .int (S.1 22 3)]
def cf24 (a : Nat → Nat) (q1 q2 : Nat) (S : St) : List Value := [.ref q1, .int (S.1 24 1)]
def cf26 (a : Nat → Nat) (q1 q2 : Nat) (S : St) : List Value := [.ref q2, .int (S.1 26 1)]
def cf28 (a : Nat → Nat) (q1 q2 : Nat) (S : St) : List Value := [.ref (a 29), .ref (a 30), .ref (a 31), .ref (a 32), .ref (a 33), .ref (a 34), .ref (a 35), .ref (a 36), .ref (a 37), .int (S.1 28 9), .int (S.1 28 10), .int (S.1 28 11)]
def cf38 (a : Nat → Nat) (q1 q2 : Nat) (S : St) : List Value := [.ref (a 39), .ref (a 40), .ref (a 41), .ref (a 42), .ref (a 43), .ref (a 44), .ref (a 45), .ref (a 46), .ref (a 47), .int (S.1 38 9), .int (S.1 38 10), .int (S.1 38 11)]
def cf48 (a : Nat → Nat) (q1 q2 : Nat) (S : St) : List Value := [.ref (a 49)]
def cf50 (a : Nat → Nat) (q1 q2 : Nat) (S : St) : List Value := [.ref (a 51)]
def ccells (cs : Nat → ClassId) (a : Nat → Nat) (q1 q2 : Nat) (S : St) : va_W := [((a 0), .inr (10, cf0 a q1 q2 S)), ((a 1), .inr (8, cf1 a q1 q2 S)), ((a 2), .inl (cs 1, 1000, .inl (S.1 2))), ((a 3), .inr (5, cf3 a q1 q2 S)), ((a 4), .inr (1, cf4 a q1 q2 S)), ((a 5), .inr (3, cf5 a q1 q2 S)), ((a 6), .inl (cs 0, 2048, .inl (S.1 6))), ((a 7), .inl (cs 0, 64, .inl (S.1 7))), ((a 8), .inr (2, cf8 a q1 q2 S)), ((a 9), .inl (cs 0, 432, .inl (S.1 9))), ((a 10), .inl (cs 0, 432, .inl (S.1 10))), ((a 11), .inl (cs 0, 432, .inl (S.1 11))), ((a 12), .inl (cs 0, 432, .inl (S.1 12))), ((a 13), .inl (cs 0, 6, .inl (S.1 13))), ((a 14), .inl (cs 0, 24, .inl (S.1 14))), ((a 15), .inr (0, cf15 a q1 q2 S)), ((a 16), .inl (cs 0, 432, .inl (S.1 16))), ((a 17), .inl (cs 0, 432, .inl (S.1 17))), ((a 18), .inl (cs 3, 432, .inl (S.1 18))), ((a 19), .inl (cs 0, 432, .inl (S.1 19))), ((a 20), .inl (cs 0, 401, .inl (S.1 20))), ((a 21), .inl (cs 0, 5616, .inl (S.1 21))), ((a 22), .inr (9, cf22 a q1 q2 S)), ((a 23), .inl (cs 0, 432, .inl (S.1 23))), ((a 24), .inr (6, cf24 a q1 q2 S)), (q1, .inl (cs 1, (S.1 24 2).toNatClampNeg, .inl (S.1 25))), ((a 26), .inr (6, cf26 a q1 q2 S)), (q2, .inl (cs 1, (S.1 26 2).toNatClampNeg, .inl (S.1 27))), ((a 28), .inr (4, cf28 a q1 q2 S)), ((a 29), .inl (cs 2, 6, .inr (.inl (S.2 29)))), ((a 30), .inl (cs 2, 5, .inr (.inl (S.2 30)))), ((a 31), .inl (cs 0, 5, .inl (S.1 31))), ((a 32), .inl (cs 2, 24, .inr (.inl (S.2 32)))), ((a 33), .inl (cs 0, 24, .inl (S.1 33))), ((a 34), .inl (cs 0, 24, .inl (S.1 34))), ((a 35), .inl (cs 0, 24, .inl (S.1 35))), ((a 36), .inl (cs 0, 24, .inl (S.1 36))), ((a 37), .inl (cs 3, 24, .inl (S.1 37))), ((a 38), .inr (4, cf38 a q1 q2 S)), ((a 39), .inl (cs 2, 6, .inr (.inl (S.2 39)))), ((a 40), .inl (cs 2, 5, .inr (.inl (S.2 40)))), ((a 41), .inl (cs 0, 5, .inl (S.1 41))), ((a 42), .inl (cs 2, 24, .inr (.inl (S.2 42)))), ((a 43), .inl (cs 0, 24, .inl (S.1 43))), ((a 44), .inl (cs 0, 24, .inl (S.1 44))), ((a 45), .inl (cs 0, 24, .inl (S.1 45))), ((a 46), .inl (cs 0, 24, .inl (S.1 46))), ((a 47), .inl (cs 3, 24, .inl (S.1 47))), ((a 48), .inr (7, cf48 a q1 q2 S)), ((a 49), .inl (cs 0, 432, .inl (S.1 49))), ((a 50), .inr (7, cf50 a q1 q2 S)), ((a 51), .inl (cs 0, 432, .inl (S.1 51)))]
section
variable {cs : Nat → ClassId} {a : Nat → Nat} {q1 q2 : Nat} {S : St}
theorem cE0 : (ccells cs a q1 q2 S)[0]? = some ((a 0), .inr (10, cf0 a q1 q2 S)) := rfl
theorem cE1 : (ccells cs a q1 q2 S)[1]? = some ((a 1), .inr (8, cf1 a q1 q2 S)) := rfl
theorem cE2 : (ccells cs a q1 q2 S)[2]? = some ((a 2), .inl (cs 1, 1000, .inl (S.1 2))) := rfl
theorem cE3 : (ccells cs a q1 q2 S)[3]? = some ((a 3), .inr (5, cf3 a q1 q2 S)) := rfl
theorem cE4 : (ccells cs a q1 q2 S)[4]? = some ((a 4), .inr (1, cf4 a q1 q2 S)) := rfl
theorem cE5 : (ccells cs a q1 q2 S)[5]? = some ((a 5), .inr (3, cf5 a q1 q2 S)) := rfl
theorem cE6 : (ccells cs a q1 q2 S)[6]? = some ((a 6), .inl (cs 0, 2048, .inl (S.1 6))) := rfl
theorem cE7 : (ccells cs a q1 q2 S)[7]? = some ((a 7), .inl (cs 0, 64, .inl (S.1 7))) := rfl
theorem cE8 : (ccells cs a q1 q2 S)[8]? = some ((a 8), .inr (2, cf8 a q1 q2 S)) := rfl
theorem cE9 : (ccells cs a q1 q2 S)[9]? = some ((a 9), .inl (cs 0, 432, .inl (S.1 9))) := rfl
theorem cE10 : (ccells cs a q1 q2 S)[10]? = some ((a 10), .inl (cs 0, 432, .inl (S.1 10))) := rfl
theorem cE11 : (ccells cs a q1 q2 S)[11]? = some ((a 11), .inl (cs 0, 432, .inl (S.1 11))) := rfl
theorem cE12 : (ccells cs a q1 q2 S)[12]? = some ((a 12), .inl (cs 0, 432, .inl (S.1 12))) := rfl
theorem cE13 : (ccells cs a q1 q2 S)[13]? = some ((a 13), .inl (cs 0, 6, .inl (S.1 13))) := rfl
theorem cE14 : (ccells cs a q1 q2 S)[14]? = some ((a 14), .inl (cs 0, 24, .inl (S.1 14))) := rfl
theorem cE15 : (ccells cs a q1 q2 S)[15]? = some ((a 15), .inr (0, cf15 a q1 q2 S)) := rfl
theorem cE16 : (ccells cs a q1 q2 S)[16]? = some ((a 16), .inl (cs 0, 432, .inl (S.1 16))) := rfl
theorem cE17 : (ccells cs a q1 q2 S)[17]? = some ((a 17), .inl (cs 0, 432, .inl (S.1 17))) := rfl
theorem cE18 : (ccells cs a q1 q2 S)[18]? = some ((a 18), .inl (cs 3, 432, .inl (S.1 18))) := rfl
theorem cE19 : (ccells cs a q1 q2 S)[19]? = some ((a 19), .inl (cs 0, 432, .inl (S.1 19))) := rfl
theorem cE20 : (ccells cs a q1 q2 S)[20]? = some ((a 20), .inl (cs 0, 401, .inl (S.1 20))) := rfl
theorem cE21 : (ccells cs a q1 q2 S)[21]? = some ((a 21), .inl (cs 0, 5616, .inl (S.1 21))) := rfl
theorem cE22 : (ccells cs a q1 q2 S)[22]? = some ((a 22), .inr (9, cf22 a q1 q2 S)) := rfl
theorem cE23 : (ccells cs a q1 q2 S)[23]? = some ((a 23), .inl (cs 0, 432, .inl (S.1 23))) := rfl
theorem cE24 : (ccells cs a q1 q2 S)[24]? = some ((a 24), .inr (6, cf24 a q1 q2 S)) := rfl
theorem cE25 : (ccells cs a q1 q2 S)[25]? = some (q1, .inl (cs 1, (S.1 24 2).toNatClampNeg, .inl (S.1 25))) := rfl
theorem cE26 : (ccells cs a q1 q2 S)[26]? = some ((a 26), .inr (6, cf26 a q1 q2 S)) := rfl
theorem cE27 : (ccells cs a q1 q2 S)[27]? = some (q2, .inl (cs 1, (S.1 26 2).toNatClampNeg, .inl (S.1 27))) := rfl
theorem cE28 : (ccells cs a q1 q2 S)[28]? = some ((a 28), .inr (4, cf28 a q1 q2 S)) := rfl
theorem cE29 : (ccells cs a q1 q2 S)[29]? = some ((a 29), .inl (cs 2, 6, .inr (.inl (S.2 29)))) := rfl
theorem cE30 : (ccells cs a q1 q2 S)[30]? = some ((a 30), .inl (cs 2, 5, .inr (.inl (S.2 30)))) := rfl
theorem cE31 : (ccells cs a q1 q2 S)[31]? = some ((a 31), .inl (cs 0, 5, .inl (S.1 31))) := rfl
theorem cE32 : (ccells cs a q1 q2 S)[32]? = some ((a 32), .inl (cs 2, 24, .inr (.inl (S.2 32)))) := rfl
theorem cE33 : (ccells cs a q1 q2 S)[33]? = some ((a 33), .inl (cs 0, 24, .inl (S.1 33))) := rfl
theorem cE34 : (ccells cs a q1 q2 S)[34]? = some ((a 34), .inl (cs 0, 24, .inl (S.1 34))) := rfl
theorem cE35 : (ccells cs a q1 q2 S)[35]? = some ((a 35), .inl (cs 0, 24, .inl (S.1 35))) := rfl
theorem cE36 : (ccells cs a q1 q2 S)[36]? = some ((a 36), .inl (cs 0, 24, .inl (S.1 36))) := rfl
theorem cE37 : (ccells cs a q1 q2 S)[37]? = some ((a 37), .inl (cs 3, 24, .inl (S.1 37))) := rfl
theorem cE38 : (ccells cs a q1 q2 S)[38]? = some ((a 38), .inr (4, cf38 a q1 q2 S)) := rfl
theorem cE39 : (ccells cs a q1 q2 S)[39]? = some ((a 39), .inl (cs 2, 6, .inr (.inl (S.2 39)))) := rfl
theorem cE40 : (ccells cs a q1 q2 S)[40]? = some ((a 40), .inl (cs 2, 5, .inr (.inl (S.2 40)))) := rfl
theorem cE41 : (ccells cs a q1 q2 S)[41]? = some ((a 41), .inl (cs 0, 5, .inl (S.1 41))) := rfl
theorem cE42 : (ccells cs a q1 q2 S)[42]? = some ((a 42), .inl (cs 2, 24, .inr (.inl (S.2 42)))) := rfl
theorem cE43 : (ccells cs a q1 q2 S)[43]? = some ((a 43), .inl (cs 0, 24, .inl (S.1 43))) := rfl
theorem cE44 : (ccells cs a q1 q2 S)[44]? = some ((a 44), .inl (cs 0, 24, .inl (S.1 44))) := rfl
theorem cE45 : (ccells cs a q1 q2 S)[45]? = some ((a 45), .inl (cs 0, 24, .inl (S.1 45))) := rfl
theorem cE46 : (ccells cs a q1 q2 S)[46]? = some ((a 46), .inl (cs 0, 24, .inl (S.1 46))) := rfl
theorem cE47 : (ccells cs a q1 q2 S)[47]? = some ((a 47), .inl (cs 3, 24, .inl (S.1 47))) := rfl
theorem cE48 : (ccells cs a q1 q2 S)[48]? = some ((a 48), .inr (7, cf48 a q1 q2 S)) := rfl
theorem cE49 : (ccells cs a q1 q2 S)[49]? = some ((a 49), .inl (cs 0, 432, .inl (S.1 49))) := rfl
theorem cE50 : (ccells cs a q1 q2 S)[50]? = some ((a 50), .inr (7, cf50 a q1 q2 S)) := rfl
theorem cE51 : (ccells cs a q1 q2 S)[51]? = some ((a 51), .inl (cs 0, 432, .inl (S.1 51))) := rfl
theorem cL0 : (cf0 a q1 q2 S).length = 13 := rfl
theorem cV0_0 : (cf0 a q1 q2 S)[0]? = some (.ref (a 1)) := rfl
theorem cV0_1 : (cf0 a q1 q2 S)[1]? = some (.ref (a 3)) := rfl
theorem cV0_2 : (cf0 a q1 q2 S)[2]? = some (.ref (a 4)) := rfl
theorem cV0_3 : (cf0 a q1 q2 S)[3]? = some (.ref (a 5)) := rfl
theorem cV0_4 : (cf0 a q1 q2 S)[4]? = some (.ref (a 8)) := rfl
theorem cV0_5 : (cf0 a q1 q2 S)[5]? = some (.ref (a 15)) := rfl
theorem cV0_6 : (cf0 a q1 q2 S)[6]? = some (.ref (a 22)) := rfl
theorem cV0_7 : (cf0 a q1 q2 S)[7]? = some (.ref (a 26)) := rfl
theorem cV0_8 : (cf0 a q1 q2 S)[8]? = some (.ref (a 28)) := rfl
theorem cV0_9 : (cf0 a q1 q2 S)[9]? = some (.ref (a 38)) := rfl
theorem cV0_10 : (cf0 a q1 q2 S)[10]? = some (.ref (a 48)) := rfl
theorem cV0_11 : (cf0 a q1 q2 S)[11]? = some (.ref (a 50)) := rfl
theorem cV0_12 : (cf0 a q1 q2 S)[12]? = some (.int (S.1 0 12)) := rfl
theorem cP0_12 {x : Int32} : (ccells cs a q1 q2 S).set 0 ((a 0), .inr (10, (cf0 a q1 q2 S).set 12 (.int x))) = ccells cs a q1 q2 (puI S 0 12 x) := rfl
theorem cL1 : (cf1 a q1 q2 S).length = 4 := rfl
theorem cV1_0 : (cf1 a q1 q2 S)[0]? = some (.ref (a 2)) := rfl
theorem cV1_1 : (cf1 a q1 q2 S)[1]? = some (.int (S.1 1 1)) := rfl
theorem cP1_1 {x : Int32} : (ccells cs a q1 q2 S).set 1 ((a 1), .inr (8, (cf1 a q1 q2 S).set 1 (.int x))) = ccells cs a q1 q2 (puI S 1 1 x) := rfl
theorem cV1_2 : (cf1 a q1 q2 S)[2]? = some (.int (S.1 1 2)) := rfl
theorem cP1_2 {x : Int32} : (ccells cs a q1 q2 S).set 1 ((a 1), .inr (8, (cf1 a q1 q2 S).set 2 (.int x))) = ccells cs a q1 q2 (puI S 1 2 x) := rfl
theorem cV1_3 : (cf1 a q1 q2 S)[3]? = some (.int (S.1 1 3)) := rfl
theorem cP1_3 {x : Int32} : (ccells cs a q1 q2 S).set 1 ((a 1), .inr (8, (cf1 a q1 q2 S).set 3 (.int x))) = ccells cs a q1 q2 (puI S 1 3 x) := rfl
theorem cA2 {i : Nat} {x : Int32} : (ccells cs a q1 q2 S).set 2 ((a 2), .inl (cs 1, 1000, .inl (upd (S.1 2) i x))) = ccells cs a q1 q2 (puI S 2 i x) := rfl
theorem cL3 : (cf3 a q1 q2 S).length = 8 := rfl
theorem cV3_0 : (cf3 a q1 q2 S)[0]? = some (.long (S.2 3 0)) := rfl
theorem cV3_1 : (cf3 a q1 q2 S)[1]? = some (.long (S.2 3 1)) := rfl
theorem cV3_2 : (cf3 a q1 q2 S)[2]? = some (.long (S.2 3 2)) := rfl
theorem cV3_3 : (cf3 a q1 q2 S)[3]? = some (.long (S.2 3 3)) := rfl
theorem cV3_4 : (cf3 a q1 q2 S)[4]? = some (.long (S.2 3 4)) := rfl
theorem cV3_5 : (cf3 a q1 q2 S)[5]? = some (.int (S.1 3 5)) := rfl
theorem cP3_5 {x : Int32} : (ccells cs a q1 q2 S).set 3 ((a 3), .inr (5, (cf3 a q1 q2 S).set 5 (.int x))) = ccells cs a q1 q2 (puI S 3 5 x) := rfl
theorem cV3_6 : (cf3 a q1 q2 S)[6]? = some (.int (S.1 3 6)) := rfl
theorem cP3_6 {x : Int32} : (ccells cs a q1 q2 S).set 3 ((a 3), .inr (5, (cf3 a q1 q2 S).set 6 (.int x))) = ccells cs a q1 q2 (puI S 3 6 x) := rfl
theorem cV3_7 : (cf3 a q1 q2 S)[7]? = some (.int (S.1 3 7)) := rfl
theorem cP3_7 {x : Int32} : (ccells cs a q1 q2 S).set 3 ((a 3), .inr (5, (cf3 a q1 q2 S).set 7 (.int x))) = ccells cs a q1 q2 (puI S 3 7 x) := rfl
theorem cL4 : (cf4 a q1 q2 S).length = 5 := rfl
theorem cV4_0 : (cf4 a q1 q2 S)[0]? = some (.long (S.2 4 0)) := rfl
theorem cV4_1 : (cf4 a q1 q2 S)[1]? = some (.int (S.1 4 1)) := rfl
theorem cP4_1 {x : Int32} : (ccells cs a q1 q2 S).set 4 ((a 4), .inr (1, (cf4 a q1 q2 S).set 1 (.int x))) = ccells cs a q1 q2 (puI S 4 1 x) := rfl
theorem cV4_2 : (cf4 a q1 q2 S)[2]? = some (.int (S.1 4 2)) := rfl
theorem cP4_2 {x : Int32} : (ccells cs a q1 q2 S).set 4 ((a 4), .inr (1, (cf4 a q1 q2 S).set 2 (.int x))) = ccells cs a q1 q2 (puI S 4 2 x) := rfl
theorem cV4_3 : (cf4 a q1 q2 S)[3]? = some (.int (S.1 4 3)) := rfl
theorem cP4_3 {x : Int32} : (ccells cs a q1 q2 S).set 4 ((a 4), .inr (1, (cf4 a q1 q2 S).set 3 (.int x))) = ccells cs a q1 q2 (puI S 4 3 x) := rfl
theorem cV4_4 : (cf4 a q1 q2 S)[4]? = some (.int (S.1 4 4)) := rfl
theorem cP4_4 {x : Int32} : (ccells cs a q1 q2 S).set 4 ((a 4), .inr (1, (cf4 a q1 q2 S).set 4 (.int x))) = ccells cs a q1 q2 (puI S 4 4 x) := rfl
theorem cL5 : (cf5 a q1 q2 S).length = 3 := rfl
theorem cV5_0 : (cf5 a q1 q2 S)[0]? = some (.ref (a 6)) := rfl
theorem cV5_1 : (cf5 a q1 q2 S)[1]? = some (.ref (a 7)) := rfl
theorem cV5_2 : (cf5 a q1 q2 S)[2]? = some (.int (S.1 5 2)) := rfl
theorem cP5_2 {x : Int32} : (ccells cs a q1 q2 S).set 5 ((a 5), .inr (3, (cf5 a q1 q2 S).set 2 (.int x))) = ccells cs a q1 q2 (puI S 5 2 x) := rfl
theorem cA6 {i : Nat} {x : Int32} : (ccells cs a q1 q2 S).set 6 ((a 6), .inl (cs 0, 2048, .inl (upd (S.1 6) i x))) = ccells cs a q1 q2 (puI S 6 i x) := rfl
theorem cA7 {i : Nat} {x : Int32} : (ccells cs a q1 q2 S).set 7 ((a 7), .inl (cs 0, 64, .inl (upd (S.1 7) i x))) = ccells cs a q1 q2 (puI S 7 i x) := rfl
theorem cL8 : (cf8 a q1 q2 S).length = 7 := rfl
theorem cV8_0 : (cf8 a q1 q2 S)[0]? = some (.ref (a 9)) := rfl
theorem cV8_1 : (cf8 a q1 q2 S)[1]? = some (.ref (a 10)) := rfl
theorem cV8_2 : (cf8 a q1 q2 S)[2]? = some (.ref (a 11)) := rfl
theorem cV8_3 : (cf8 a q1 q2 S)[3]? = some (.ref (a 12)) := rfl
theorem cV8_4 : (cf8 a q1 q2 S)[4]? = some (.int (S.1 8 4)) := rfl
theorem cP8_4 {x : Int32} : (ccells cs a q1 q2 S).set 8 ((a 8), .inr (2, (cf8 a q1 q2 S).set 4 (.int x))) = ccells cs a q1 q2 (puI S 8 4 x) := rfl
theorem cV8_5 : (cf8 a q1 q2 S)[5]? = some (.ref (a 13)) := rfl
theorem cV8_6 : (cf8 a q1 q2 S)[6]? = some (.ref (a 14)) := rfl
theorem cA9 {i : Nat} {x : Int32} : (ccells cs a q1 q2 S).set 9 ((a 9), .inl (cs 0, 432, .inl (upd (S.1 9) i x))) = ccells cs a q1 q2 (puI S 9 i x) := rfl
theorem cA10 {i : Nat} {x : Int32} : (ccells cs a q1 q2 S).set 10 ((a 10), .inl (cs 0, 432, .inl (upd (S.1 10) i x))) = ccells cs a q1 q2 (puI S 10 i x) := rfl
theorem cA11 {i : Nat} {x : Int32} : (ccells cs a q1 q2 S).set 11 ((a 11), .inl (cs 0, 432, .inl (upd (S.1 11) i x))) = ccells cs a q1 q2 (puI S 11 i x) := rfl
theorem cA12 {i : Nat} {x : Int32} : (ccells cs a q1 q2 S).set 12 ((a 12), .inl (cs 0, 432, .inl (upd (S.1 12) i x))) = ccells cs a q1 q2 (puI S 12 i x) := rfl
theorem cA13 {i : Nat} {x : Int32} : (ccells cs a q1 q2 S).set 13 ((a 13), .inl (cs 0, 6, .inl (upd (S.1 13) i x))) = ccells cs a q1 q2 (puI S 13 i x) := rfl
theorem cA14 {i : Nat} {x : Int32} : (ccells cs a q1 q2 S).set 14 ((a 14), .inl (cs 0, 24, .inl (upd (S.1 14) i x))) = ccells cs a q1 q2 (puI S 14 i x) := rfl
theorem cL15 : (cf15 a q1 q2 S).length = 7 := rfl
theorem cV15_0 : (cf15 a q1 q2 S)[0]? = some (.ref (a 16)) := rfl
theorem cV15_1 : (cf15 a q1 q2 S)[1]? = some (.ref (a 17)) := rfl
theorem cV15_2 : (cf15 a q1 q2 S)[2]? = some (.ref (a 18)) := rfl
theorem cV15_3 : (cf15 a q1 q2 S)[3]? = some (.int (S.1 15 3)) := rfl
theorem cP15_3 {x : Int32} : (ccells cs a q1 q2 S).set 15 ((a 15), .inr (0, (cf15 a q1 q2 S).set 3 (.int x))) = ccells cs a q1 q2 (puI S 15 3 x) := rfl
theorem cV15_4 : (cf15 a q1 q2 S)[4]? = some (.ref (a 19)) := rfl
theorem cV15_5 : (cf15 a q1 q2 S)[5]? = some (.ref (a 20)) := rfl
theorem cV15_6 : (cf15 a q1 q2 S)[6]? = some (.ref (a 21)) := rfl
theorem cA16 {i : Nat} {x : Int32} : (ccells cs a q1 q2 S).set 16 ((a 16), .inl (cs 0, 432, .inl (upd (S.1 16) i x))) = ccells cs a q1 q2 (puI S 16 i x) := rfl
theorem cA17 {i : Nat} {x : Int32} : (ccells cs a q1 q2 S).set 17 ((a 17), .inl (cs 0, 432, .inl (upd (S.1 17) i x))) = ccells cs a q1 q2 (puI S 17 i x) := rfl
theorem cA18 {i : Nat} {x : Int32} : (ccells cs a q1 q2 S).set 18 ((a 18), .inl (cs 3, 432, .inl (upd (S.1 18) i x))) = ccells cs a q1 q2 (puI S 18 i x) := rfl
theorem cA19 {i : Nat} {x : Int32} : (ccells cs a q1 q2 S).set 19 ((a 19), .inl (cs 0, 432, .inl (upd (S.1 19) i x))) = ccells cs a q1 q2 (puI S 19 i x) := rfl
theorem cA20 {i : Nat} {x : Int32} : (ccells cs a q1 q2 S).set 20 ((a 20), .inl (cs 0, 401, .inl (upd (S.1 20) i x))) = ccells cs a q1 q2 (puI S 20 i x) := rfl
theorem cA21 {i : Nat} {x : Int32} : (ccells cs a q1 q2 S).set 21 ((a 21), .inl (cs 0, 5616, .inl (upd (S.1 21) i x))) = ccells cs a q1 q2 (puI S 21 i x) := rfl
theorem cL22 : (cf22 a q1 q2 S).length = 4 := rfl
theorem cV22_0 : (cf22 a q1 q2 S)[0]? = some (.ref (a 23)) := rfl
theorem cV22_1 : (cf22 a q1 q2 S)[1]? = some (.ref (a 24)) := rfl
theorem cV22_2 : (cf22 a q1 q2 S)[2]? = some (.int (S.1 22 2)) := rfl
theorem cP22_2 {x : Int32} : (ccells cs a q1 q2 S).set 22 ((a 22), .inr (9, (cf22 a q1 q2 S).set 2 (.int x))) = ccells cs a q1 q2 (puI S 22 2 x) := rfl
theorem cV22_3 : (cf22 a q1 q2 S)[3]? = some (.int (S.1 22 3)) := rfl
theorem cP22_3 {x : Int32} : (ccells cs a q1 q2 S).set 22 ((a 22), .inr (9, (cf22 a q1 q2 S).set 3 (.int x))) = ccells cs a q1 q2 (puI S 22 3 x) := rfl
theorem cA23 {i : Nat} {x : Int32} : (ccells cs a q1 q2 S).set 23 ((a 23), .inl (cs 0, 432, .inl (upd (S.1 23) i x))) = ccells cs a q1 q2 (puI S 23 i x) := rfl
theorem cL24 : (cf24 a q1 q2 S).length = 2 := rfl
theorem cV24_0 : (cf24 a q1 q2 S)[0]? = some (.ref q1) := rfl
theorem cV24_1 : (cf24 a q1 q2 S)[1]? = some (.int (S.1 24 1)) := rfl
theorem cP24_1 {x : Int32} : (ccells cs a q1 q2 S).set 24 ((a 24), .inr (6, (cf24 a q1 q2 S).set 1 (.int x))) = ccells cs a q1 q2 (puI S 24 1 x) := rfl
theorem cA25 {i : Nat} {x : Int32} : (ccells cs a q1 q2 S).set 25 (q1, .inl (cs 1, (S.1 24 2).toNatClampNeg, .inl (upd (S.1 25) i x))) = ccells cs a q1 q2 (puI S 25 i x) := rfl
theorem cL26 : (cf26 a q1 q2 S).length = 2 := rfl
theorem cV26_0 : (cf26 a q1 q2 S)[0]? = some (.ref q2) := rfl
theorem cV26_1 : (cf26 a q1 q2 S)[1]? = some (.int (S.1 26 1)) := rfl
theorem cP26_1 {x : Int32} : (ccells cs a q1 q2 S).set 26 ((a 26), .inr (6, (cf26 a q1 q2 S).set 1 (.int x))) = ccells cs a q1 q2 (puI S 26 1 x) := rfl
theorem cA27 {i : Nat} {x : Int32} : (ccells cs a q1 q2 S).set 27 (q2, .inl (cs 1, (S.1 26 2).toNatClampNeg, .inl (upd (S.1 27) i x))) = ccells cs a q1 q2 (puI S 27 i x) := rfl
theorem cL28 : (cf28 a q1 q2 S).length = 12 := rfl
theorem cV28_0 : (cf28 a q1 q2 S)[0]? = some (.ref (a 29)) := rfl
theorem cV28_1 : (cf28 a q1 q2 S)[1]? = some (.ref (a 30)) := rfl
theorem cV28_2 : (cf28 a q1 q2 S)[2]? = some (.ref (a 31)) := rfl
theorem cV28_3 : (cf28 a q1 q2 S)[3]? = some (.ref (a 32)) := rfl
theorem cV28_4 : (cf28 a q1 q2 S)[4]? = some (.ref (a 33)) := rfl
theorem cV28_5 : (cf28 a q1 q2 S)[5]? = some (.ref (a 34)) := rfl
theorem cV28_6 : (cf28 a q1 q2 S)[6]? = some (.ref (a 35)) := rfl
theorem cV28_7 : (cf28 a q1 q2 S)[7]? = some (.ref (a 36)) := rfl
theorem cV28_8 : (cf28 a q1 q2 S)[8]? = some (.ref (a 37)) := rfl
theorem cV28_9 : (cf28 a q1 q2 S)[9]? = some (.int (S.1 28 9)) := rfl
theorem cP28_9 {x : Int32} : (ccells cs a q1 q2 S).set 28 ((a 28), .inr (4, (cf28 a q1 q2 S).set 9 (.int x))) = ccells cs a q1 q2 (puI S 28 9 x) := rfl
theorem cV28_10 : (cf28 a q1 q2 S)[10]? = some (.int (S.1 28 10)) := rfl
theorem cP28_10 {x : Int32} : (ccells cs a q1 q2 S).set 28 ((a 28), .inr (4, (cf28 a q1 q2 S).set 10 (.int x))) = ccells cs a q1 q2 (puI S 28 10 x) := rfl
theorem cV28_11 : (cf28 a q1 q2 S)[11]? = some (.int (S.1 28 11)) := rfl
theorem cP28_11 {x : Int32} : (ccells cs a q1 q2 S).set 28 ((a 28), .inr (4, (cf28 a q1 q2 S).set 11 (.int x))) = ccells cs a q1 q2 (puI S 28 11 x) := rfl
theorem cA29 {i : Nat} {x : Int64} : (ccells cs a q1 q2 S).set 29 ((a 29), .inl (cs 2, 6, .inr (.inl (vp_updL (S.2 29) i x)))) = ccells cs a q1 q2 (puL S 29 i x) := rfl
theorem cA30 {i : Nat} {x : Int64} : (ccells cs a q1 q2 S).set 30 ((a 30), .inl (cs 2, 5, .inr (.inl (vp_updL (S.2 30) i x)))) = ccells cs a q1 q2 (puL S 30 i x) := rfl
theorem cA31 {i : Nat} {x : Int32} : (ccells cs a q1 q2 S).set 31 ((a 31), .inl (cs 0, 5, .inl (upd (S.1 31) i x))) = ccells cs a q1 q2 (puI S 31 i x) := rfl
theorem cA32 {i : Nat} {x : Int64} : (ccells cs a q1 q2 S).set 32 ((a 32), .inl (cs 2, 24, .inr (.inl (vp_updL (S.2 32) i x)))) = ccells cs a q1 q2 (puL S 32 i x) := rfl
theorem cA33 {i : Nat} {x : Int32} : (ccells cs a q1 q2 S).set 33 ((a 33), .inl (cs 0, 24, .inl (upd (S.1 33) i x))) = ccells cs a q1 q2 (puI S 33 i x) := rfl
theorem cA34 {i : Nat} {x : Int32} : (ccells cs a q1 q2 S).set 34 ((a 34), .inl (cs 0, 24, .inl (upd (S.1 34) i x))) = ccells cs a q1 q2 (puI S 34 i x) := rfl
theorem cA35 {i : Nat} {x : Int32} : (ccells cs a q1 q2 S).set 35 ((a 35), .inl (cs 0, 24, .inl (upd (S.1 35) i x))) = ccells cs a q1 q2 (puI S 35 i x) := rfl
theorem cA36 {i : Nat} {x : Int32} : (ccells cs a q1 q2 S).set 36 ((a 36), .inl (cs 0, 24, .inl (upd (S.1 36) i x))) = ccells cs a q1 q2 (puI S 36 i x) := rfl
theorem cA37 {i : Nat} {x : Int32} : (ccells cs a q1 q2 S).set 37 ((a 37), .inl (cs 3, 24, .inl (upd (S.1 37) i x))) = ccells cs a q1 q2 (puI S 37 i x) := rfl
theorem cL38 : (cf38 a q1 q2 S).length = 12 := rfl
theorem cV38_0 : (cf38 a q1 q2 S)[0]? = some (.ref (a 39)) := rfl
theorem cV38_1 : (cf38 a q1 q2 S)[1]? = some (.ref (a 40)) := rfl
theorem cV38_2 : (cf38 a q1 q2 S)[2]? = some (.ref (a 41)) := rfl
theorem cV38_3 : (cf38 a q1 q2 S)[3]? = some (.ref (a 42)) := rfl
theorem cV38_4 : (cf38 a q1 q2 S)[4]? = some (.ref (a 43)) := rfl
theorem cV38_5 : (cf38 a q1 q2 S)[5]? = some (.ref (a 44)) := rfl
theorem cV38_6 : (cf38 a q1 q2 S)[6]? = some (.ref (a 45)) := rfl
theorem cV38_7 : (cf38 a q1 q2 S)[7]? = some (.ref (a 46)) := rfl
theorem cV38_8 : (cf38 a q1 q2 S)[8]? = some (.ref (a 47)) := rfl
theorem cV38_9 : (cf38 a q1 q2 S)[9]? = some (.int (S.1 38 9)) := rfl
theorem cP38_9 {x : Int32} : (ccells cs a q1 q2 S).set 38 ((a 38), .inr (4, (cf38 a q1 q2 S).set 9 (.int x))) = ccells cs a q1 q2 (puI S 38 9 x) := rfl
theorem cV38_10 : (cf38 a q1 q2 S)[10]? = some (.int (S.1 38 10)) := rfl
theorem cP38_10 {x : Int32} : (ccells cs a q1 q2 S).set 38 ((a 38), .inr (4, (cf38 a q1 q2 S).set 10 (.int x))) = ccells cs a q1 q2 (puI S 38 10 x) := rfl
theorem cV38_11 : (cf38 a q1 q2 S)[11]? = some (.int (S.1 38 11)) := rfl
theorem cP38_11 {x : Int32} : (ccells cs a q1 q2 S).set 38 ((a 38), .inr (4, (cf38 a q1 q2 S).set 11 (.int x))) = ccells cs a q1 q2 (puI S 38 11 x) := rfl
theorem cA39 {i : Nat} {x : Int64} : (ccells cs a q1 q2 S).set 39 ((a 39), .inl (cs 2, 6, .inr (.inl (vp_updL (S.2 39) i x)))) = ccells cs a q1 q2 (puL S 39 i x) := rfl
theorem cA40 {i : Nat} {x : Int64} : (ccells cs a q1 q2 S).set 40 ((a 40), .inl (cs 2, 5, .inr (.inl (vp_updL (S.2 40) i x)))) = ccells cs a q1 q2 (puL S 40 i x) := rfl
theorem cA41 {i : Nat} {x : Int32} : (ccells cs a q1 q2 S).set 41 ((a 41), .inl (cs 0, 5, .inl (upd (S.1 41) i x))) = ccells cs a q1 q2 (puI S 41 i x) := rfl
theorem cA42 {i : Nat} {x : Int64} : (ccells cs a q1 q2 S).set 42 ((a 42), .inl (cs 2, 24, .inr (.inl (vp_updL (S.2 42) i x)))) = ccells cs a q1 q2 (puL S 42 i x) := rfl
theorem cA43 {i : Nat} {x : Int32} : (ccells cs a q1 q2 S).set 43 ((a 43), .inl (cs 0, 24, .inl (upd (S.1 43) i x))) = ccells cs a q1 q2 (puI S 43 i x) := rfl
theorem cA44 {i : Nat} {x : Int32} : (ccells cs a q1 q2 S).set 44 ((a 44), .inl (cs 0, 24, .inl (upd (S.1 44) i x))) = ccells cs a q1 q2 (puI S 44 i x) := rfl
theorem cA45 {i : Nat} {x : Int32} : (ccells cs a q1 q2 S).set 45 ((a 45), .inl (cs 0, 24, .inl (upd (S.1 45) i x))) = ccells cs a q1 q2 (puI S 45 i x) := rfl
theorem cA46 {i : Nat} {x : Int32} : (ccells cs a q1 q2 S).set 46 ((a 46), .inl (cs 0, 24, .inl (upd (S.1 46) i x))) = ccells cs a q1 q2 (puI S 46 i x) := rfl
theorem cA47 {i : Nat} {x : Int32} : (ccells cs a q1 q2 S).set 47 ((a 47), .inl (cs 3, 24, .inl (upd (S.1 47) i x))) = ccells cs a q1 q2 (puI S 47 i x) := rfl
theorem cL48 : (cf48 a q1 q2 S).length = 1 := rfl
theorem cV48_0 : (cf48 a q1 q2 S)[0]? = some (.ref (a 49)) := rfl
theorem cA49 {i : Nat} {x : Int32} : (ccells cs a q1 q2 S).set 49 ((a 49), .inl (cs 0, 432, .inl (upd (S.1 49) i x))) = ccells cs a q1 q2 (puI S 49 i x) := rfl
theorem cL50 : (cf50 a q1 q2 S).length = 1 := rfl
theorem cV50_0 : (cf50 a q1 q2 S)[0]? = some (.ref (a 51)) := rfl
theorem cA51 {i : Nat} {x : Int32} : (ccells cs a q1 q2 S).set 51 ((a 51), .inl (cs 0, 432, .inl (upd (S.1 51) i x))) = ccells cs a q1 q2 (puI S 51 i x) := rfl
theorem cnm {β : Type} {D : va_G} {A : Nat → Prop} {H0 H : Heap} {locs : List Loc} {x : St} {k : St → Option β} {r : Option β} (hf : nm x k = r) (hM : gw D A H0 H locs (ccells cs a q1 q2 x)) : ∃ y, k y = r ∧ gw D A H0 H locs (ccells cs a q1 q2 y) := ⟨x, hf, hM⟩
end
