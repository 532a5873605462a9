def cellsC (ad : Nat → Nat) (cy : Nat → ClassId) (s0 s1 s2 s3 s4 s5 s6 s7 s8 s9 s10 : OS) : va_W := [(ad 0, .inr (0, [.ref (ad 11), .ref (ad 12), .ref (ad 13), .ref (ad 14), .ref (ad 15), .ref (ad 16), .ref (ad 17), .ref (ad 18), .ref (ad 19), .int (s0.1 0 9), .int (s0.1 0 10), .int (s0.1 0 11), .int (s0.1 0 12), .int (s0.1 0 13)])),
  (ad 1, .inr (1, [.ref (ad 20), .ref (ad 21), .ref (ad 22), .ref (ad 23), .ref (ad 24), .int (s1.1 0 5)])),
  (ad 2, .inr (2, [.ref (ad 25), .ref (ad 26), .int (s2.1 0 2), .ref (ad 27), .ref (ad 28), .ref (ad 29), .ref (ad 30), .ref (ad 31), .ref (ad 32), .int (s2.1 0 9)])),
  (ad 3, .inr (3, [.ref (ad 33), .ref (ad 34), .ref (ad 35), .int (s3.1 0 3)])),
  (ad 4, .inr (4, [.ref (ad 36), .ref (ad 37), .ref (ad 38), .ref (ad 39), .ref (ad 40), .ref (ad 41), .ref (ad 42), .ref (ad 43), .ref (ad 44), .ref (ad 1), .int (s4.1 0 10)])),
  (ad 5, .inr (5, [.ref (ad 45), .ref (ad 46), .ref (ad 47), .ref (ad 48), .ref (ad 49), .ref (ad 50), .ref (ad 51), .ref (ad 6), .int (s5.1 0 8), .int (s5.1 0 9), .int (s5.1 0 10), .int (s5.1 0 11)])),
  (ad 6, .inr (6, [.ref (ad 52), .ref (ad 53), .ref (ad 54), .int (s6.1 0 3), .int (s6.1 0 4), .int (s6.1 0 5), .int (s6.1 0 6), .int (s6.1 0 7), .int (s6.1 0 8), .int (s6.1 0 9), .int (s6.1 0 10), .int (s6.1 0 11)])),
  (ad 7, .inr (7, [.ref (ad 55), .ref (ad 56), .ref (ad 57), .ref (ad 58), .int (s7.1 0 4)])),
  (ad 8, .inr (8, [.ref (ad 59), .int (s8.1 0 1)])),
  (ad 9, .inr (9, [.ref (ad 60), .ref (ad 61), .ref (ad 62), .ref (ad 63), .ref (ad 64), .ref (ad 65), .int (s9.1 0 6), .int (s9.1 0 7)])),
  (ad 10, .inr (10, [.ref (ad 66), .ref (ad 8), .ref (ad 4), .ref (ad 2), .ref (ad 5), .ref (ad 7), .ref (ad 3), .ref (ad 9), .ref (ad 0), .int (s10.1 0 9)])),
  (ad 11, .inl (cy 0, 6, .inl (s0.1 1))),
  (ad 12, .inl (cy 0, 6, .inl (s0.1 2))),
  (ad 13, .inl (cy 0, 6, .inl (s0.1 3))),
  (ad 14, .inl (cy 0, 4, .inl (s0.1 4))),
  (ad 15, .inl (cy 0, 4, .inl (s0.1 5))),
  (ad 16, .inl (cy 0, 6, .inl (s0.1 6))),
  (ad 17, .inl (cy 0, 6, .inl (s0.1 7))),
  (ad 18, .inl (cy 0, 4, .inl (s0.1 8))),
  (ad 19, .inl (cy 1, 4, .inr (.inl (s0.2 9)))),
  (ad 20, .inl (cy 0, 662, .inl (s1.1 1))),
  (ad 21, .inl (cy 0, 662, .inl (s1.1 2))),
  (ad 22, .inl (cy 0, 662, .inl (s1.1 3))),
  (ad 23, .inl (cy 0, 662, .inl (s1.1 4))),
  (ad 24, .inl (cy 0, 662, .inl (s1.1 5))),
  (ad 25, .inl (cy 0, 20, .inl (s2.1 1))),
  (ad 26, .inl (cy 0, 20, .inl (s2.1 2))),
  (ad 27, .inl (cy 0, 100, .inl (s2.1 4))),
  (ad 28, .inl (cy 0, 100, .inl (s2.1 5))),
  (ad 29, .inl (cy 0, 100, .inl (s2.1 6))),
  (ad 30, .inl (cy 0, 100, .inl (s2.1 7))),
  (ad 31, .inl (cy 0, 100, .inl (s2.1 8))),
  (ad 32, .inl (cy 0, 100, .inl (s2.1 9))),
  (ad 33, .inl (cy 0, 6, .inl (s3.1 1))),
  (ad 34, .inl (cy 0, 6, .inl (s3.1 2))),
  (ad 35, .inl (cy 0, 6, .inl (s3.1 3))),
  (ad 36, .inl (cy 0, 150, .inl (s4.1 1))),
  (ad 37, .inl (cy 0, 150, .inl (s4.1 2))),
  (ad 38, .inl (cy 0, 150, .inl (s4.1 3))),
  (ad 39, .inl (cy 0, 150, .inl (s4.1 4))),
  (ad 40, .inl (cy 0, 150, .inl (s4.1 5))),
  (ad 41, .inl (cy 0, 150, .inl (s4.1 6))),
  (ad 42, .inl (cy 0, 150, .inl (s4.1 7))),
  (ad 43, .inl (cy 2, 150, .inl (s4.1 8))),
  (ad 44, .inl (cy 1, 32, .inr (.inl (s4.2 9)))),
  (ad 45, .inl (cy 3, 3200, .inl (s5.1 1))),
  (ad 46, .inl (cy 0, 20, .inl (s5.1 2))),
  (ad 47, .inl (cy 0, 20, .inl (s5.1 3))),
  (ad 48, .inl (cy 0, 20, .inl (s5.1 4))),
  (ad 49, .inl (cy 0, 20, .inl (s5.1 5))),
  (ad 50, .inl (cy 0, 240, .inl (s5.1 6))),
  (ad 51, .inl (cy 0, 20, .inl (s5.1 7))),
  (ad 52, .inl (cy 3, 160, .inl (s6.1 1))),
  (ad 53, .inl (cy 0, 12, .inl (s6.1 2))),
  (ad 54, .inl (cy 1, 9, .inr (.inl (s6.2 3)))),
  (ad 55, .inl (cy 0, 200, .inl (s7.1 1))),
  (ad 56, .inl (cy 0, 200, .inl (s7.1 2))),
  (ad 57, .inl (cy 0, 200, .inl (s7.1 3))),
  (ad 58, .inl (cy 0, 200, .inl (s7.1 4))),
  (ad 59, .inl (cy 3, 400, .inl (s8.1 1))),
  (ad 60, .inl (cy 0, 256, .inl (s9.1 1))),
  (ad 61, .inl (cy 0, 16, .inl (s9.1 2))),
  (ad 62, .inl (cy 0, 40, .inl (s9.1 3))),
  (ad 63, .inl (cy 0, 140, .inl (s9.1 4))),
  (ad 64, .inl (cy 0, 140, .inl (s9.1 5))),
  (ad 65, .inl (cy 0, 140, .inl (s9.1 6))),
  (ad 66, .inl (cy 0, 10, .inl (s10.1 1)))]
theorem eC_0 {ad : Nat → Nat} {cy : Nat → ClassId} {s0 s1 s2 s3 s4 s5 s6 s7 s8 s9 s10 : OS} : (cellsC ad cy s0 s1 s2 s3 s4 s5 s6 s7 s8 s9 s10)[0]? = some (ad 0, .inr (0, [.ref (ad 11), .ref (ad 12), .ref (ad 13), .ref (ad 14), .ref (ad 15), .ref (ad 16), .ref (ad 17), .ref (ad 18), .ref (ad 19), .int (s0.1 0 9), .int (s0.1 0 10), .int (s0.1 0 11), .int (s0.1 0 12), .int (s0.1 0 13)])) := rfl
theorem eC_1 {ad : Nat → Nat} {cy : Nat → ClassId} {s0 s1 s2 s3 s4 s5 s6 s7 s8 s9 s10 : OS} : (cellsC ad cy s0 s1 s2 s3 s4 s5 s6 s7 s8 s9 s10)[1]? = some (ad 1, .inr (1, [.ref (ad 20), .ref (ad 21), .ref (ad 22), .ref (ad 23), .ref (ad 24), .int (s1.1 0 5)])) := rfl
theorem eC_2 {ad : Nat → Nat} {cy : Nat → ClassId} {s0 s1 s2 s3 s4 s5 s6 s7 s8 s9 s10 : OS} : (cellsC ad cy s0 s1 s2 s3 s4 s5 s6 s7 s8 s9 s10)[2]? = some (ad 2, .inr (2, [.ref (ad 25), .ref (ad 26), .int (s2.1 0 2), .ref (ad 27), .ref (ad 28), .ref (ad 29), .ref (ad 30), .ref (ad 31), .ref (ad 32), .int (s2.1 0 9)])) := rfl
theorem eC_3 {ad : Nat → Nat} {cy : Nat → ClassId} {s0 s1 s2 s3 s4 s5 s6 s7 s8 s9 s10 : OS} : (cellsC ad cy s0 s1 s2 s3 s4 s5 s6 s7 s8 s9 s10)[3]? = some (ad 3, .inr (3, [.ref (ad 33), .ref (ad 34), .ref (ad 35), .int (s3.1 0 3)])) := rfl
theorem eC_4 {ad : Nat → Nat} {cy : Nat → ClassId} {s0 s1 s2 s3 s4 s5 s6 s7 s8 s9 s10 : OS} : (cellsC ad cy s0 s1 s2 s3 s4 s5 s6 s7 s8 s9 s10)[4]? = some (ad 4, .inr (4, [.ref (ad 36), .ref (ad 37), .ref (ad 38), .ref (ad 39), .ref (ad 40), .ref (ad 41), .ref (ad 42), .ref (ad 43), .ref (ad 44), .ref (ad 1), .int (s4.1 0 10)])) := rfl
theorem eC_5 {ad : Nat → Nat} {cy : Nat → ClassId} {s0 s1 s2 s3 s4 s5 s6 s7 s8 s9 s10 : OS} : (cellsC ad cy s0 s1 s2 s3 s4 s5 s6 s7 s8 s9 s10)[5]? = some (ad 5, .inr (5, [.ref (ad 45), .ref (ad 46), .ref (ad 47), .ref (ad 48), .ref (ad 49), .ref (ad 50), .ref (ad 51), .ref (ad 6), .int (s5.1 0 8), .int (s5.1 0 9), .int (s5.1 0 10), .int (s5.1 0 11)])) := rfl
theorem eC_6 {ad : Nat → Nat} {cy : Nat → ClassId} {s0 s1 s2 s3 s4 s5 s6 s7 s8 s9 s10 : OS} : (cellsC ad cy s0 s1 s2 s3 s4 s5 s6 s7 s8 s9 s10)[6]? = some (ad 6, .inr (6, [.ref (ad 52), .ref (ad 53), .ref (ad 54), .int (s6.1 0 3), .int (s6.1 0 4), .int (s6.1 0 5), .int (s6.1 0 6), .int (s6.1 0 7), .int (s6.1 0 8), .int (s6.1 0 9), .int (s6.1 0 10), .int (s6.1 0 11)])) := rfl
theorem eC_7 {ad : Nat → Nat} {cy : Nat → ClassId} {s0 s1 s2 s3 s4 s5 s6 s7 s8 s9 s10 : OS} : (cellsC ad cy s0 s1 s2 s3 s4 s5 s6 s7 s8 s9 s10)[7]? = some (ad 7, .inr (7, [.ref (ad 55), .ref (ad 56), .ref (ad 57), .ref (ad 58), .int (s7.1 0 4)])) := rfl
theorem eC_8 {ad : Nat → Nat} {cy : Nat → ClassId} {s0 s1 s2 s3 s4 s5 s6 s7 s8 s9 s10 : OS} : (cellsC ad cy s0 s1 s2 s3 s4 s5 s6 s7 s8 s9 s10)[8]? = some (ad 8, .inr (8, [.ref (ad 59), .int (s8.1 0 1)])) := rfl
theorem eC_9 {ad : Nat → Nat} {cy : Nat → ClassId} {s0 s1 s2 s3 s4 s5 s6 s7 s8 s9 s10 : OS} : (cellsC ad cy s0 s1 s2 s3 s4 s5 s6 s7 s8 s9 s10)[9]? = some (ad 9, .inr (9, [.ref (ad 60), .ref (ad 61), .ref (ad 62), .ref (ad 63), .ref (ad 64), .ref (ad 65), .int (s9.1 0 6), .int (s9.1 0 7)])) := rfl
theorem eC_10 {ad : Nat → Nat} {cy : Nat → ClassId} {s0 s1 s2 s3 s4 s5 s6 s7 s8 s9 s10 : OS} : (cellsC ad cy s0 s1 s2 s3 s4 s5 s6 s7 s8 s9 s10)[10]? = some (ad 10, .inr (10, [.ref (ad 66), .ref (ad 8), .ref (ad 4), .ref (ad 2), .ref (ad 5), .ref (ad 7), .ref (ad 3), .ref (ad 9), .ref (ad 0), .int (s10.1 0 9)])) := rfl
theorem eC_11 {ad : Nat → Nat} {cy : Nat → ClassId} {s0 s1 s2 s3 s4 s5 s6 s7 s8 s9 s10 : OS} : (cellsC ad cy s0 s1 s2 s3 s4 s5 s6 s7 s8 s9 s10)[11]? = some (ad 11, .inl (cy 0, 6, .inl (s0.1 1))) := rfl
theorem eC_12 {ad : Nat → Nat} {cy : Nat → ClassId} {s0 s1 s2 s3 s4 s5 s6 s7 s8 s9 s10 : OS} : (cellsC ad cy s0 s1 s2 s3 s4 s5 s6 s7 s8 s9 s10)[12]? = some (ad 12, .inl (cy 0, 6, .inl (s0.1 2))) := rfl
theorem eC_13 {ad : Nat → Nat} {cy : Nat → ClassId} {s0 s1 s2 s3 s4 s5 s6 s7 s8 s9 s10 : OS} : (cellsC ad cy s0 s1 s2 s3 s4 s5 s6 s7 s8 s9 s10)[13]? = some (ad 13, .inl (cy 0, 6, .inl (s0.1 3))) := rfl
theorem eC_14 {ad : Nat → Nat} {cy : Nat → ClassId} {s0 s1 s2 s3 s4 s5 s6 s7 s8 s9 s10 : OS} : (cellsC ad cy s0 s1 s2 s3 s4 s5 s6 s7 s8 s9 s10)[14]? = some (ad 14, .inl (cy 0, 4, .inl (s0.1 4))) := rfl
theorem eC_15 {ad : Nat → Nat} {cy : Nat → ClassId} {s0 s1 s2 s3 s4 s5 s6 s7 s8 s9 s10 : OS} : (cellsC ad cy s0 s1 s2 s3 s4 s5 s6 s7 s8 s9 s10)[15]? = some (ad 15, .inl (cy 0, 4, .inl (s0.1 5))) := rfl
theorem eC_16 {ad : Nat → Nat} {cy : Nat → ClassId} {s0 s1 s2 s3 s4 s5 s6 s7 s8 s9 s10 : OS} : (cellsC ad cy s0 s1 s2 s3 s4 s5 s6 s7 s8 s9 s10)[16]? = some (ad 16, .inl (cy 0, 6, .inl (s0.1 6))) := rfl
theorem eC_17 {ad : Nat → Nat} {cy : Nat → ClassId} {s0 s1 s2 s3 s4 s5 s6 s7 s8 s9 s10 : OS} : (cellsC ad cy s0 s1 s2 s3 s4 s5 s6 s7 s8 s9 s10)[17]? = some (ad 17, .inl (cy 0, 6, .inl (s0.1 7))) := rfl
theorem eC_18 {ad : Nat → Nat} {cy : Nat → ClassId} {s0 s1 s2 s3 s4 s5 s6 s7 s8 s9 s10 : OS} : (cellsC ad cy s0 s1 s2 s3 s4 s5 s6 s7 s8 s9 s10)[18]? = some (ad 18, .inl (cy 0, 4, .inl (s0.1 8))) := rfl
theorem eC_19 {ad : Nat → Nat} {cy : Nat → ClassId} {s0 s1 s2 s3 s4 s5 s6 s7 s8 s9 s10 : OS} : (cellsC ad cy s0 s1 s2 s3 s4 s5 s6 s7 s8 s9 s10)[19]? = some (ad 19, .inl (cy 1, 4, .inr (.inl (s0.2 9)))) := rfl
theorem eC_20 {ad : Nat → Nat} {cy : Nat → ClassId} {s0 s1 s2 s3 s4 s5 s6 s7 s8 s9 s10 : OS} : (cellsC ad cy s0 s1 s2 s3 s4 s5 s6 s7 s8 s9 s10)[20]? = some (ad 20, .inl (cy 0, 662, .inl (s1.1 1))) := rfl
theorem eC_21 {ad : Nat → Nat} {cy : Nat → ClassId} {s0 s1 s2 s3 s4 s5 s6 s7 s8 s9 s10 : OS} : (cellsC ad cy s0 s1 s2 s3 s4 s5 s6 s7 s8 s9 s10)[21]? = some (ad 21, .inl (cy 0, 662, .inl (s1.1 2))) := rfl
theorem eC_22 {ad : Nat → Nat} {cy : Nat → ClassId} {s0 s1 s2 s3 s4 s5 s6 s7 s8 s9 s10 : OS} : (cellsC ad cy s0 s1 s2 s3 s4 s5 s6 s7 s8 s9 s10)[22]? = some (ad 22, .inl (cy 0, 662, .inl (s1.1 3))) := rfl
theorem eC_23 {ad : Nat → Nat} {cy : Nat → ClassId} {s0 s1 s2 s3 s4 s5 s6 s7 s8 s9 s10 : OS} : (cellsC ad cy s0 s1 s2 s3 s4 s5 s6 s7 s8 s9 s10)[23]? = some (ad 23, .inl (cy 0, 662, .inl (s1.1 4))) := rfl
theorem eC_24 {ad : Nat → Nat} {cy : Nat → ClassId} {s0 s1 s2 s3 s4 s5 s6 s7 s8 s9 s10 : OS} : (cellsC ad cy s0 s1 s2 s3 s4 s5 s6 s7 s8 s9 s10)[24]? = some (ad 24, .inl (cy 0, 662, .inl (s1.1 5))) := rfl
theorem eC_25 {ad : Nat → Nat} {cy : Nat → ClassId} {s0 s1 s2 s3 s4 s5 s6 s7 s8 s9 s10 : OS} : (cellsC ad cy s0 s1 s2 s3 s4 s5 s6 s7 s8 s9 s10)[25]? = some (ad 25, .inl (cy 0, 20, .inl (s2.1 1))) := rfl
theorem eC_26 {ad : Nat → Nat} {cy : Nat → ClassId} {s0 s1 s2 s3 s4 s5 s6 s7 s8 s9 s10 : OS} : (cellsC ad cy s0 s1 s2 s3 s4 s5 s6 s7 s8 s9 s10)[26]? = some (ad 26, .inl (cy 0, 20, .inl (s2.1 2))) := rfl
theorem eC_27 {ad : Nat → Nat} {cy : Nat → ClassId} {s0 s1 s2 s3 s4 s5 s6 s7 s8 s9 s10 : OS} : (cellsC ad cy s0 s1 s2 s3 s4 s5 s6 s7 s8 s9 s10)[27]? = some (ad 27, .inl (cy 0, 100, .inl (s2.1 4))) := rfl
theorem eC_28 {ad : Nat → Nat} {cy : Nat → ClassId} {s0 s1 s2 s3 s4 s5 s6 s7 s8 s9 s10 : OS} : (cellsC ad cy s0 s1 s2 s3 s4 s5 s6 s7 s8 s9 s10)[28]? = some (ad 28, .inl (cy 0, 100, .inl (s2.1 5))) := rfl
theorem eC_29 {ad : Nat → Nat} {cy : Nat → ClassId} {s0 s1 s2 s3 s4 s5 s6 s7 s8 s9 s10 : OS} : (cellsC ad cy s0 s1 s2 s3 s4 s5 s6 s7 s8 s9 s10)[29]? = some (ad 29, .inl (cy 0, 100, .inl (s2.1 6))) := rfl
theorem eC_30 {ad : Nat → Nat} {cy : Nat → ClassId} {s0 s1 s2 s3 s4 s5 s6 s7 s8 s9 s10 : OS} : (cellsC ad cy s0 s1 s2 s3 s4 s5 s6 s7 s8 s9 s10)[30]? = some (ad 30, .inl (cy 0, 100, .inl (s2.1 7))) := rfl
theorem eC_31 {ad : Nat → Nat} {cy : Nat → ClassId} {s0 s1 s2 s3 s4 s5 s6 s7 s8 s9 s10 : OS} : (cellsC ad cy s0 s1 s2 s3 s4 s5 s6 s7 s8 s9 s10)[31]? = some (ad 31, .inl (cy 0, 100, .inl (s2.1 8))) := rfl
theorem eC_32 {ad : Nat → Nat} {cy : Nat → ClassId} {s0 s1 s2 s3 s4 s5 s6 s7 s8 s9 s10 : OS} : (cellsC ad cy s0 s1 s2 s3 s4 s5 s6 s7 s8 s9 s10)[32]? = some (ad 32, .inl (cy 0, 100, .inl (s2.1 9))) := rfl
theorem eC_33 {ad : Nat → Nat} {cy : Nat → ClassId} {s0 s1 s2 s3 s4 s5 s6 s7 s8 s9 s10 : OS} : (cellsC ad cy s0 s1 s2 s3 s4 s5 s6 s7 s8 s9 s10)[33]? = some (ad 33, .inl (cy 0, 6, .inl (s3.1 1))) := rfl
theorem eC_34 {ad : Nat → Nat} {cy : Nat → ClassId} {s0 s1 s2 s3 s4 s5 s6 s7 s8 s9 s10 : OS} : (cellsC ad cy s0 s1 s2 s3 s4 s5 s6 s7 s8 s9 s10)[34]? = some (ad 34, .inl (cy 0, 6, .inl (s3.1 2))) := rfl
theorem eC_35 {ad : Nat → Nat} {cy : Nat → ClassId} {s0 s1 s2 s3 s4 s5 s6 s7 s8 s9 s10 : OS} : (cellsC ad cy s0 s1 s2 s3 s4 s5 s6 s7 s8 s9 s10)[35]? = some (ad 35, .inl (cy 0, 6, .inl (s3.1 3))) := rfl
theorem eC_36 {ad : Nat → Nat} {cy : Nat → ClassId} {s0 s1 s2 s3 s4 s5 s6 s7 s8 s9 s10 : OS} : (cellsC ad cy s0 s1 s2 s3 s4 s5 s6 s7 s8 s9 s10)[36]? = some (ad 36, .inl (cy 0, 150, .inl (s4.1 1))) := rfl
theorem eC_37 {ad : Nat → Nat} {cy : Nat → ClassId} {s0 s1 s2 s3 s4 s5 s6 s7 s8 s9 s10 : OS} : (cellsC ad cy s0 s1 s2 s3 s4 s5 s6 s7 s8 s9 s10)[37]? = some (ad 37, .inl (cy 0, 150, .inl (s4.1 2))) := rfl
theorem eC_38 {ad : Nat → Nat} {cy : Nat → ClassId} {s0 s1 s2 s3 s4 s5 s6 s7 s8 s9 s10 : OS} : (cellsC ad cy s0 s1 s2 s3 s4 s5 s6 s7 s8 s9 s10)[38]? = some (ad 38, .inl (cy 0, 150, .inl (s4.1 3))) := rfl
theorem eC_39 {ad : Nat → Nat} {cy : Nat → ClassId} {s0 s1 s2 s3 s4 s5 s6 s7 s8 s9 s10 : OS} : (cellsC ad cy s0 s1 s2 s3 s4 s5 s6 s7 s8 s9 s10)[39]? = some (ad 39, .inl (cy 0, 150, .inl (s4.1 4))) := rfl
theorem eC_40 {ad : Nat → Nat} {cy : Nat → ClassId} {s0 s1 s2 s3 s4 s5 s6 s7 s8 s9 s10 : OS} : (cellsC ad cy s0 s1 s2 s3 s4 s5 s6 s7 s8 s9 s10)[40]? = some (ad 40, .inl (cy 0, 150, .inl (s4.1 5))) := rfl
theorem eC_41 {ad : Nat → Nat} {cy : Nat → ClassId} {s0 s1 s2 s3 s4 s5 s6 s7 s8 s9 s10 : OS} : (cellsC ad cy s0 s1 s2 s3 s4 s5 s6 s7 s8 s9 s10)[41]? = some (ad 41, .inl (cy 0, 150, .inl (s4.1 6))) := rfl
theorem eC_42 {ad : Nat → Nat} {cy : Nat → ClassId} {s0 s1 s2 s3 s4 s5 s6 s7 s8 s9 s10 : OS} : (cellsC ad cy s0 s1 s2 s3 s4 s5 s6 s7 s8 s9 s10)[42]? = some (ad 42, .inl (cy 0, 150, .inl (s4.1 7))) := rfl
theorem eC_43 {ad : Nat → Nat} {cy : Nat → ClassId} {s0 s1 s2 s3 s4 s5 s6 s7 s8 s9 s10 : OS} : (cellsC ad cy s0 s1 s2 s3 s4 s5 s6 s7 s8 s9 s10)[43]? = some (ad 43, .inl (cy 2, 150, .inl (s4.1 8))) := rfl
theorem eC_44 {ad : Nat → Nat} {cy : Nat → ClassId} {s0 s1 s2 s3 s4 s5 s6 s7 s8 s9 s10 : OS} : (cellsC ad cy s0 s1 s2 s3 s4 s5 s6 s7 s8 s9 s10)[44]? = some (ad 44, .inl (cy 1, 32, .inr (.inl (s4.2 9)))) := rfl
theorem eC_45 {ad : Nat → Nat} {cy : Nat → ClassId} {s0 s1 s2 s3 s4 s5 s6 s7 s8 s9 s10 : OS} : (cellsC ad cy s0 s1 s2 s3 s4 s5 s6 s7 s8 s9 s10)[45]? = some (ad 45, .inl (cy 3, 3200, .inl (s5.1 1))) := rfl
theorem eC_46 {ad : Nat → Nat} {cy : Nat → ClassId} {s0 s1 s2 s3 s4 s5 s6 s7 s8 s9 s10 : OS} : (cellsC ad cy s0 s1 s2 s3 s4 s5 s6 s7 s8 s9 s10)[46]? = some (ad 46, .inl (cy 0, 20, .inl (s5.1 2))) := rfl
theorem eC_47 {ad : Nat → Nat} {cy : Nat → ClassId} {s0 s1 s2 s3 s4 s5 s6 s7 s8 s9 s10 : OS} : (cellsC ad cy s0 s1 s2 s3 s4 s5 s6 s7 s8 s9 s10)[47]? = some (ad 47, .inl (cy 0, 20, .inl (s5.1 3))) := rfl
theorem eC_48 {ad : Nat → Nat} {cy : Nat → ClassId} {s0 s1 s2 s3 s4 s5 s6 s7 s8 s9 s10 : OS} : (cellsC ad cy s0 s1 s2 s3 s4 s5 s6 s7 s8 s9 s10)[48]? = some (ad 48, .inl (cy 0, 20, .inl (s5.1 4))) := rfl
theorem eC_49 {ad : Nat → Nat} {cy : Nat → ClassId} {s0 s1 s2 s3 s4 s5 s6 s7 s8 s9 s10 : OS} : (cellsC ad cy s0 s1 s2 s3 s4 s5 s6 s7 s8 s9 s10)[49]? = some (ad 49, .inl (cy 0, 20, .inl (s5.1 5))) := rfl
theorem eC_50 {ad : Nat → Nat} {cy : Nat → ClassId} {s0 s1 s2 s3 s4 s5 s6 s7 s8 s9 s10 : OS} : (cellsC ad cy s0 s1 s2 s3 s4 s5 s6 s7 s8 s9 s10)[50]? = some (ad 50, .inl (cy 0, 240, .inl (s5.1 6))) := rfl
theorem eC_51 {ad : Nat → Nat} {cy : Nat → ClassId} {s0 s1 s2 s3 s4 s5 s6 s7 s8 s9 s10 : OS} : (cellsC ad cy s0 s1 s2 s3 s4 s5 s6 s7 s8 s9 s10)[51]? = some (ad 51, .inl (cy 0, 20, .inl (s5.1 7))) := rfl
theorem eC_52 {ad : Nat → Nat} {cy : Nat → ClassId} {s0 s1 s2 s3 s4 s5 s6 s7 s8 s9 s10 : OS} : (cellsC ad cy s0 s1 s2 s3 s4 s5 s6 s7 s8 s9 s10)[52]? = some (ad 52, .inl (cy 3, 160, .inl (s6.1 1))) := rfl
theorem eC_53 {ad : Nat → Nat} {cy : Nat → ClassId} {s0 s1 s2 s3 s4 s5 s6 s7 s8 s9 s10 : OS} : (cellsC ad cy s0 s1 s2 s3 s4 s5 s6 s7 s8 s9 s10)[53]? = some (ad 53, .inl (cy 0, 12, .inl (s6.1 2))) := rfl
theorem eC_54 {ad : Nat → Nat} {cy : Nat → ClassId} {s0 s1 s2 s3 s4 s5 s6 s7 s8 s9 s10 : OS} : (cellsC ad cy s0 s1 s2 s3 s4 s5 s6 s7 s8 s9 s10)[54]? = some (ad 54, .inl (cy 1, 9, .inr (.inl (s6.2 3)))) := rfl
theorem eC_55 {ad : Nat → Nat} {cy : Nat → ClassId} {s0 s1 s2 s3 s4 s5 s6 s7 s8 s9 s10 : OS} : (cellsC ad cy s0 s1 s2 s3 s4 s5 s6 s7 s8 s9 s10)[55]? = some (ad 55, .inl (cy 0, 200, .inl (s7.1 1))) := rfl
theorem eC_56 {ad : Nat → Nat} {cy : Nat → ClassId} {s0 s1 s2 s3 s4 s5 s6 s7 s8 s9 s10 : OS} : (cellsC ad cy s0 s1 s2 s3 s4 s5 s6 s7 s8 s9 s10)[56]? = some (ad 56, .inl (cy 0, 200, .inl (s7.1 2))) := rfl
theorem eC_57 {ad : Nat → Nat} {cy : Nat → ClassId} {s0 s1 s2 s3 s4 s5 s6 s7 s8 s9 s10 : OS} : (cellsC ad cy s0 s1 s2 s3 s4 s5 s6 s7 s8 s9 s10)[57]? = some (ad 57, .inl (cy 0, 200, .inl (s7.1 3))) := rfl
theorem eC_58 {ad : Nat → Nat} {cy : Nat → ClassId} {s0 s1 s2 s3 s4 s5 s6 s7 s8 s9 s10 : OS} : (cellsC ad cy s0 s1 s2 s3 s4 s5 s6 s7 s8 s9 s10)[58]? = some (ad 58, .inl (cy 0, 200, .inl (s7.1 4))) := rfl
theorem eC_59 {ad : Nat → Nat} {cy : Nat → ClassId} {s0 s1 s2 s3 s4 s5 s6 s7 s8 s9 s10 : OS} : (cellsC ad cy s0 s1 s2 s3 s4 s5 s6 s7 s8 s9 s10)[59]? = some (ad 59, .inl (cy 3, 400, .inl (s8.1 1))) := rfl
theorem eC_60 {ad : Nat → Nat} {cy : Nat → ClassId} {s0 s1 s2 s3 s4 s5 s6 s7 s8 s9 s10 : OS} : (cellsC ad cy s0 s1 s2 s3 s4 s5 s6 s7 s8 s9 s10)[60]? = some (ad 60, .inl (cy 0, 256, .inl (s9.1 1))) := rfl
theorem eC_61 {ad : Nat → Nat} {cy : Nat → ClassId} {s0 s1 s2 s3 s4 s5 s6 s7 s8 s9 s10 : OS} : (cellsC ad cy s0 s1 s2 s3 s4 s5 s6 s7 s8 s9 s10)[61]? = some (ad 61, .inl (cy 0, 16, .inl (s9.1 2))) := rfl
theorem eC_62 {ad : Nat → Nat} {cy : Nat → ClassId} {s0 s1 s2 s3 s4 s5 s6 s7 s8 s9 s10 : OS} : (cellsC ad cy s0 s1 s2 s3 s4 s5 s6 s7 s8 s9 s10)[62]? = some (ad 62, .inl (cy 0, 40, .inl (s9.1 3))) := rfl
theorem eC_63 {ad : Nat → Nat} {cy : Nat → ClassId} {s0 s1 s2 s3 s4 s5 s6 s7 s8 s9 s10 : OS} : (cellsC ad cy s0 s1 s2 s3 s4 s5 s6 s7 s8 s9 s10)[63]? = some (ad 63, .inl (cy 0, 140, .inl (s9.1 4))) := rfl
theorem eC_64 {ad : Nat → Nat} {cy : Nat → ClassId} {s0 s1 s2 s3 s4 s5 s6 s7 s8 s9 s10 : OS} : (cellsC ad cy s0 s1 s2 s3 s4 s5 s6 s7 s8 s9 s10)[64]? = some (ad 64, .inl (cy 0, 140, .inl (s9.1 5))) := rfl
theorem eC_65 {ad : Nat → Nat} {cy : Nat → ClassId} {s0 s1 s2 s3 s4 s5 s6 s7 s8 s9 s10 : OS} : (cellsC ad cy s0 s1 s2 s3 s4 s5 s6 s7 s8 s9 s10)[65]? = some (ad 65, .inl (cy 0, 140, .inl (s9.1 6))) := rfl
theorem eC_66 {ad : Nat → Nat} {cy : Nat → ClassId} {s0 s1 s2 s3 s4 s5 s6 s7 s8 s9 s10 : OS} : (cellsC ad cy s0 s1 s2 s3 s4 s5 s6 s7 s8 s9 s10)[66]? = some (ad 66, .inl (cy 0, 10, .inl (s10.1 1))) := rfl
theorem fstC {ad : Nat → Nat} {cy : Nat → ClassId} {s0 s1 s2 s3 s4 s5 s6 s7 s8 s9 s10 : OS} : (cellsC ad cy s0 s1 s2 s3 s4 s5 s6 s7 s8 s9 s10).map Prod.fst = (List.range 67).map ad := rfl
def cellsM (ad : Nat → Nat) (cy : Nat → ClassId) (s11 : OS) : va_W := [(ad 0, .inr (11, [.ref (ad 1), .int (s11.1 0 1), .int (s11.1 0 2), .int (s11.1 0 3), .int (s11.1 0 4), .int (s11.1 0 5), .int (s11.1 0 6), .int (s11.1 0 7), .int (s11.1 0 8), .int (s11.1 0 9), .int (s11.1 0 10), .ref (ad 2), .ref (ad 3), .ref (ad 4), .ref (ad 5), .ref (ad 6), .ref (ad 7), .ref (ad 8), .ref (ad 9), .ref (ad 10), .ref (ad 11), .ref (ad 12), .ref (ad 13), .ref (ad 14), .int (s11.1 0 24), .ref (ad 15), .ref (ad 16), .ref (ad 17), .ref (ad 18), .ref (ad 19), .ref (ad 20), .ref (ad 21), .ref (ad 22), .ref (ad 23), .ref (ad 24), .ref (ad 25), .ref (ad 26), .ref (ad 27), .ref (ad 28), .ref (ad 29), .ref (ad 30), .ref (ad 31), .ref (ad 32), .int (s11.1 0 43), .int (s11.1 0 44), .int (s11.1 0 45), .int (s11.1 0 46), .int (s11.1 0 47), .int (s11.1 0 48), .int (s11.1 0 49), .int (s11.1 0 50), .int (s11.1 0 51), .ref (ad 33), .int (s11.1 0 53), .int (s11.1 0 54), .ref (ad 34), .ref (ad 35), .ref (ad 36), .ref (ad 37), .ref (ad 38), .ref (ad 39), .ref (ad 40), .ref (ad 41), .ref (ad 42), .ref (ad 43), .ref (ad 44), .ref (ad 45), .ref (ad 46), .int (s11.1 0 68), .int (s11.1 0 69), .ref (ad 47), .ref (ad 48), .ref (ad 49), .ref (ad 50), .ref (ad 51), .ref (ad 52), .ref (ad 53), .ref (ad 54), .ref (ad 55), .ref (ad 56), .ref (ad 57), .ref (ad 58), .ref (ad 59), .ref (ad 60), .ref (ad 61), .ref (ad 62), .ref (ad 63), .ref (ad 64), .ref (ad 65), .int (s11.1 0 89), .int (s11.1 0 90), .long (s11.2 0 91), .int (s11.1 0 92), .int (s11.1 0 93), .long (s11.2 0 94)])),
  (ad 1, .inl (cy 4, 400, .inl (s11.1 1))),
  (ad 2, .inl (cy 0, 150, .inl (s11.1 12))),
  (ad 3, .inl (cy 0, 150, .inl (s11.1 13))),
  (ad 4, .inl (cy 0, 150, .inl (s11.1 14))),
  (ad 5, .inl (cy 0, 150, .inl (s11.1 15))),
  (ad 6, .inl (cy 0, 150, .inl (s11.1 16))),
  (ad 7, .inl (cy 0, 150, .inl (s11.1 17))),
  (ad 8, .inl (cy 0, 150, .inl (s11.1 18))),
  (ad 9, .inl (cy 2, 150, .inl (s11.1 19))),
  (ad 10, .inl (cy 0, 10, .inl (s11.1 20))),
  (ad 11, .inl (cy 1, 8, .inr (.inl (s11.2 21)))),
  (ad 12, .inl (cy 1, 8, .inr (.inl (s11.2 22)))),
  (ad 13, .inl (cy 1, 8, .inr (.inl (s11.2 23)))),
  (ad 14, .inl (cy 1, 8, .inr (.inl (s11.2 24)))),
  (ad 15, .inl (cy 0, 4800, .inl (s11.1 26))),
  (ad 16, .inl (cy 0, 4800, .inl (s11.1 27))),
  (ad 17, .inl (cy 0, 4800, .inl (s11.1 28))),
  (ad 18, .inl (cy 0, 4800, .inl (s11.1 29))),
  (ad 19, .inl (cy 0, 4800, .inl (s11.1 30))),
  (ad 20, .inl (cy 0, 20, .inl (s11.1 31))),
  (ad 21, .inl (cy 0, 20, .inl (s11.1 32))),
  (ad 22, .inl (cy 1, 20, .inr (.inl (s11.2 33)))),
  (ad 23, .inl (cy 0, 20, .inl (s11.1 34))),
  (ad 24, .inl (cy 0, 20, .inl (s11.1 35))),
  (ad 25, .inl (cy 0, 20, .inl (s11.1 36))),
  (ad 26, .inl (cy 0, 240, .inl (s11.1 37))),
  (ad 27, .inl (cy 0, 240, .inl (s11.1 38))),
  (ad 28, .inl (cy 0, 240, .inl (s11.1 39))),
  (ad 29, .inl (cy 0, 240, .inl (s11.1 40))),
  (ad 30, .inl (cy 0, 240, .inl (s11.1 41))),
  (ad 31, .inl (cy 0, 3200, .inl (s11.1 42))),
  (ad 32, .inl (cy 0, 3200, .inl (s11.1 43))),
  (ad 33, .inl (cy 0, 200, .inl (s11.1 53))),
  (ad 34, .inl (cy 1, 200, .inr (.inl (s11.2 56)))),
  (ad 35, .inl (cy 2, 200, .inl (s11.1 57))),
  (ad 36, .inl (cy 2, 240, .inl (s11.1 58))),
  (ad 37, .inl (cy 0, 100, .inl (s11.1 59))),
  (ad 38, .inl (cy 0, 100, .inl (s11.1 60))),
  (ad 39, .inl (cy 0, 100, .inl (s11.1 61))),
  (ad 40, .inl (cy 0, 100, .inl (s11.1 62))),
  (ad 41, .inl (cy 0, 100, .inl (s11.1 63))),
  (ad 42, .inl (cy 0, 100, .inl (s11.1 64))),
  (ad 43, .inl (cy 0, 200, .inl (s11.1 65))),
  (ad 44, .inl (cy 0, 200, .inl (s11.1 66))),
  (ad 45, .inl (cy 0, 200, .inl (s11.1 67))),
  (ad 46, .inl (cy 0, 200, .inl (s11.1 68))),
  (ad 47, .inl (cy 0, 6, .inl (s11.1 71))),
  (ad 48, .inl (cy 0, 6, .inl (s11.1 72))),
  (ad 49, .inl (cy 0, 6, .inl (s11.1 73))),
  (ad 50, .inl (cy 0, 6, .inl (s11.1 74))),
  (ad 51, .inl (cy 0, 6, .inl (s11.1 75))),
  (ad 52, .inl (cy 0, 6, .inl (s11.1 76))),
  (ad 53, .inl (cy 0, 6, .inl (s11.1 77))),
  (ad 54, .inl (cy 0, 256, .inl (s11.1 78))),
  (ad 55, .inl (cy 0, 256, .inl (s11.1 79))),
  (ad 56, .inl (cy 0, 40, .inl (s11.1 80))),
  (ad 57, .inl (cy 0, 40, .inl (s11.1 81))),
  (ad 58, .inl (cy 0, 100, .inl (s11.1 82))),
  (ad 59, .inl (cy 0, 100, .inl (s11.1 83))),
  (ad 60, .inl (cy 0, 100, .inl (s11.1 84))),
  (ad 61, .inl (cy 0, 6, .inl (s11.1 85))),
  (ad 62, .inl (cy 0, 6, .inl (s11.1 86))),
  (ad 63, .inl (cy 0, 6, .inl (s11.1 87))),
  (ad 64, .inl (cy 0, 4, .inl (s11.1 88))),
  (ad 65, .inl (cy 0, 6, .inl (s11.1 89)))]
theorem eM_0 {ad : Nat → Nat} {cy : Nat → ClassId} {s11 : OS} : (cellsM ad cy s11)[0]? = some (ad 0, .inr (11, [.ref (ad 1), .int (s11.1 0 1), .int (s11.1 0 2), .int (s11.1 0 3), .int (s11.1 0 4), .int (s11.1 0 5), .int (s11.1 0 6), .int (s11.1 0 7), .int (s11.1 0 8), .int (s11.1 0 9), .int (s11.1 0 10), .ref (ad 2), .ref (ad 3), .ref (ad 4), .ref (ad 5), .ref (ad 6), .ref (ad 7), .ref (ad 8), .ref (ad 9), .ref (ad 10), .ref (ad 11), .ref (ad 12), .ref (ad 13), .ref (ad 14), .int (s11.1 0 24), .ref (ad 15), .ref (ad 16), .ref (ad 17), .ref (ad 18), .ref (ad 19), .ref (ad 20), .ref (ad 21), .ref (ad 22), .ref (ad 23), .ref (ad 24), .ref (ad 25), .ref (ad 26), .ref (ad 27), .ref (ad 28), .ref (ad 29), .ref (ad 30), .ref (ad 31), .ref (ad 32), .int (s11.1 0 43), .int (s11.1 0 44), .int (s11.1 0 45), .int (s11.1 0 46), .int (s11.1 0 47), .int (s11.1 0 48), .int (s11.1 0 49), .int (s11.1 0 50), .int (s11.1 0 51), .ref (ad 33), .int (s11.1 0 53), .int (s11.1 0 54), .ref (ad 34), .ref (ad 35), .ref (ad 36), .ref (ad 37), .ref (ad 38), .ref (ad 39), .ref (ad 40), .ref (ad 41), .ref (ad 42), .ref (ad 43), .ref (ad 44), .ref (ad 45), .ref (ad 46), .int (s11.1 0 68), .int (s11.1 0 69), .ref (ad 47), .ref (ad 48), .ref (ad 49), .ref (ad 50), .ref (ad 51), .ref (ad 52), .ref (ad 53), .ref (ad 54), .ref (ad 55), .ref (ad 56), .ref (ad 57), .ref (ad 58), .ref (ad 59), .ref (ad 60), .ref (ad 61), .ref (ad 62), .ref (ad 63), .ref (ad 64), .ref (ad 65), .int (s11.1 0 89), .int (s11.1 0 90), .long (s11.2 0 91), .int (s11.1 0 92), .int (s11.1 0 93), .long (s11.2 0 94)])) := rfl
theorem eM_1 {ad : Nat → Nat} {cy : Nat → ClassId} {s11 : OS} : (cellsM ad cy s11)[1]? = some (ad 1, .inl (cy 4, 400, .inl (s11.1 1))) := rfl
theorem eM_2 {ad : Nat → Nat} {cy : Nat → ClassId} {s11 : OS} : (cellsM ad cy s11)[2]? = some (ad 2, .inl (cy 0, 150, .inl (s11.1 12))) := rfl
theorem eM_3 {ad : Nat → Nat} {cy : Nat → ClassId} {s11 : OS} : (cellsM ad cy s11)[3]? = some (ad 3, .inl (cy 0, 150, .inl (s11.1 13))) := rfl
theorem eM_4 {ad : Nat → Nat} {cy : Nat → ClassId} {s11 : OS} : (cellsM ad cy s11)[4]? = some (ad 4, .inl (cy 0, 150, .inl (s11.1 14))) := rfl
theorem eM_5 {ad : Nat → Nat} {cy : Nat → ClassId} {s11 : OS} : (cellsM ad cy s11)[5]? = some (ad 5, .inl (cy 0, 150, .inl (s11.1 15))) := rfl
theorem eM_6 {ad : Nat → Nat} {cy : Nat → ClassId} {s11 : OS} : (cellsM ad cy s11)[6]? = some (ad 6, .inl (cy 0, 150, .inl (s11.1 16))) := rfl
theorem eM_7 {ad : Nat → Nat} {cy : Nat → ClassId} {s11 : OS} : (cellsM ad cy s11)[7]? = some (ad 7, .inl (cy 0, 150, .inl (s11.1 17))) := rfl
theorem eM_8 {ad : Nat → Nat} {cy : Nat → ClassId} {s11 : OS} : (cellsM ad cy s11)[8]? = some (ad 8, .inl (cy 0, 150, .inl (s11.1 18))) := rfl
theorem eM_9 {ad : Nat → Nat} {cy : Nat → ClassId} {s11 : OS} : (cellsM ad cy s11)[9]? = some (ad 9, .inl (cy 2, 150, .inl (s11.1 19))) := rfl
theorem eM_10 {ad : Nat → Nat} {cy : Nat → ClassId} {s11 : OS} : (cellsM ad cy s11)[10]? = some (ad 10, .inl (cy 0, 10, .inl (s11.1 20))) := rfl
theorem eM_11 {ad : Nat → Nat} {cy : Nat → ClassId} {s11 : OS} : (cellsM ad cy s11)[11]? = some (ad 11, .inl (cy 1, 8, .inr (.inl (s11.2 21)))) := rfl
theorem eM_12 {ad : Nat → Nat} {cy : Nat → ClassId} {s11 : OS} : (cellsM ad cy s11)[12]? = some (ad 12, .inl (cy 1, 8, .inr (.inl (s11.2 22)))) := rfl
theorem eM_13 {ad : Nat → Nat} {cy : Nat → ClassId} {s11 : OS} : (cellsM ad cy s11)[13]? = some (ad 13, .inl (cy 1, 8, .inr (.inl (s11.2 23)))) := rfl
theorem eM_14 {ad : Nat → Nat} {cy : Nat → ClassId} {s11 : OS} : (cellsM ad cy s11)[14]? = some (ad 14, .inl (cy 1, 8, .inr (.inl (s11.2 24)))) := rfl
theorem eM_15 {ad : Nat → Nat} {cy : Nat → ClassId} {s11 : OS} : (cellsM ad cy s11)[15]? = some (ad 15, .inl (cy 0, 4800, .inl (s11.1 26))) := rfl
theorem eM_16 {ad : Nat → Nat} {cy : Nat → ClassId} {s11 : OS} : (cellsM ad cy s11)[16]? = some (ad 16, .inl (cy 0, 4800, .inl (s11.1 27))) := rfl
theorem eM_17 {ad : Nat → Nat} {cy : Nat → ClassId} {s11 : OS} : (cellsM ad cy s11)[17]? = some (ad 17, .inl (cy 0, 4800, .inl (s11.1 28))) := rfl
theorem eM_18 {ad : Nat → Nat} {cy : Nat → ClassId} {s11 : OS} : (cellsM ad cy s11)[18]? = some (ad 18, .inl (cy 0, 4800, .inl (s11.1 29))) := rfl
theorem eM_19 {ad : Nat → Nat} {cy : Nat → ClassId} {s11 : OS} : (cellsM ad cy s11)[19]? = some (ad 19, .inl (cy 0, 4800, .inl (s11.1 30))) := rfl
theorem eM_20 {ad : Nat → Nat} {cy : Nat → ClassId} {s11 : OS} : (cellsM ad cy s11)[20]? = some (ad 20, .inl (cy 0, 20, .inl (s11.1 31))) := rfl
theorem eM_21 {ad : Nat → Nat} {cy : Nat → ClassId} {s11 : OS} : (cellsM ad cy s11)[21]? = some (ad 21, .inl (cy 0, 20, .inl (s11.1 32))) := rfl
theorem eM_22 {ad : Nat → Nat} {cy : Nat → ClassId} {s11 : OS} : (cellsM ad cy s11)[22]? = some (ad 22, .inl (cy 1, 20, .inr (.inl (s11.2 33)))) := rfl
theorem eM_23 {ad : Nat → Nat} {cy : Nat → ClassId} {s11 : OS} : (cellsM ad cy s11)[23]? = some (ad 23, .inl (cy 0, 20, .inl (s11.1 34))) := rfl
theorem eM_24 {ad : Nat → Nat} {cy : Nat → ClassId} {s11 : OS} : (cellsM ad cy s11)[24]? = some (ad 24, .inl (cy 0, 20, .inl (s11.1 35))) := rfl
theorem eM_25 {ad : Nat → Nat} {cy : Nat → ClassId} {s11 : OS} : (cellsM ad cy s11)[25]? = some (ad 25, .inl (cy 0, 20, .inl (s11.1 36))) := rfl
theorem eM_26 {ad : Nat → Nat} {cy : Nat → ClassId} {s11 : OS} : (cellsM ad cy s11)[26]? = some (ad 26, .inl (cy 0, 240, .inl (s11.1 37))) := rfl
theorem eM_27 {ad : Nat → Nat} {cy : Nat → ClassId} {s11 : OS} : (cellsM ad cy s11)[27]? = some (ad 27, .inl (cy 0, 240, .inl (s11.1 38))) := rfl
theorem eM_28 {ad : Nat → Nat} {cy : Nat → ClassId} {s11 : OS} : (cellsM ad cy s11)[28]? = some (ad 28, .inl (cy 0, 240, .inl (s11.1 39))) := rfl
theorem eM_29 {ad : Nat → Nat} {cy : Nat → ClassId} {s11 : OS} : (cellsM ad cy s11)[29]? = some (ad 29, .inl (cy 0, 240, .inl (s11.1 40))) := rfl
theorem eM_30 {ad : Nat → Nat} {cy : Nat → ClassId} {s11 : OS} : (cellsM ad cy s11)[30]? = some (ad 30, .inl (cy 0, 240, .inl (s11.1 41))) := rfl
theorem eM_31 {ad : Nat → Nat} {cy : Nat → ClassId} {s11 : OS} : (cellsM ad cy s11)[31]? = some (ad 31, .inl (cy 0, 3200, .inl (s11.1 42))) := rfl
theorem eM_32 {ad : Nat → Nat} {cy : Nat → ClassId} {s11 : OS} : (cellsM ad cy s11)[32]? = some (ad 32, .inl (cy 0, 3200, .inl (s11.1 43))) := rfl
theorem eM_33 {ad : Nat → Nat} {cy : Nat → ClassId} {s11 : OS} : (cellsM ad cy s11)[33]? = some (ad 33, .inl (cy 0, 200, .inl (s11.1 53))) := rfl
theorem eM_34 {ad : Nat → Nat} {cy : Nat → ClassId} {s11 : OS} : (cellsM ad cy s11)[34]? = some (ad 34, .inl (cy 1, 200, .inr (.inl (s11.2 56)))) := rfl
theorem eM_35 {ad : Nat → Nat} {cy : Nat → ClassId} {s11 : OS} : (cellsM ad cy s11)[35]? = some (ad 35, .inl (cy 2, 200, .inl (s11.1 57))) := rfl
theorem eM_36 {ad : Nat → Nat} {cy : Nat → ClassId} {s11 : OS} : (cellsM ad cy s11)[36]? = some (ad 36, .inl (cy 2, 240, .inl (s11.1 58))) := rfl
theorem eM_37 {ad : Nat → Nat} {cy : Nat → ClassId} {s11 : OS} : (cellsM ad cy s11)[37]? = some (ad 37, .inl (cy 0, 100, .inl (s11.1 59))) := rfl
theorem eM_38 {ad : Nat → Nat} {cy : Nat → ClassId} {s11 : OS} : (cellsM ad cy s11)[38]? = some (ad 38, .inl (cy 0, 100, .inl (s11.1 60))) := rfl
theorem eM_39 {ad : Nat → Nat} {cy : Nat → ClassId} {s11 : OS} : (cellsM ad cy s11)[39]? = some (ad 39, .inl (cy 0, 100, .inl (s11.1 61))) := rfl
theorem eM_40 {ad : Nat → Nat} {cy : Nat → ClassId} {s11 : OS} : (cellsM ad cy s11)[40]? = some (ad 40, .inl (cy 0, 100, .inl (s11.1 62))) := rfl
theorem eM_41 {ad : Nat → Nat} {cy : Nat → ClassId} {s11 : OS} : (cellsM ad cy s11)[41]? = some (ad 41, .inl (cy 0, 100, .inl (s11.1 63))) := rfl
theorem eM_42 {ad : Nat → Nat} {cy : Nat → ClassId} {s11 : OS} : (cellsM ad cy s11)[42]? = some (ad 42, .inl (cy 0, 100, .inl (s11.1 64))) := rfl
theorem eM_43 {ad : Nat → Nat} {cy : Nat → ClassId} {s11 : OS} : (cellsM ad cy s11)[43]? = some (ad 43, .inl (cy 0, 200, .inl (s11.1 65))) := rfl
theorem eM_44 {ad : Nat → Nat} {cy : Nat → ClassId} {s11 : OS} : (cellsM ad cy s11)[44]? = some (ad 44, .inl (cy 0, 200, .inl (s11.1 66))) := rfl
theorem eM_45 {ad : Nat → Nat} {cy : Nat → ClassId} {s11 : OS} : (cellsM ad cy s11)[45]? = some (ad 45, .inl (cy 0, 200, .inl (s11.1 67))) := rfl
theorem eM_46 {ad : Nat → Nat} {cy : Nat → ClassId} {s11 : OS} : (cellsM ad cy s11)[46]? = some (ad 46, .inl (cy 0, 200, .inl (s11.1 68))) := rfl
theorem eM_47 {ad : Nat → Nat} {cy : Nat → ClassId} {s11 : OS} : (cellsM ad cy s11)[47]? = some (ad 47, .inl (cy 0, 6, .inl (s11.1 71))) := rfl
theorem eM_48 {ad : Nat → Nat} {cy : Nat → ClassId} {s11 : OS} : (cellsM ad cy s11)[48]? = some (ad 48, .inl (cy 0, 6, .inl (s11.1 72))) := rfl
theorem eM_49 {ad : Nat → Nat} {cy : Nat → ClassId} {s11 : OS} : (cellsM ad cy s11)[49]? = some (ad 49, .inl (cy 0, 6, .inl (s11.1 73))) := rfl
theorem eM_50 {ad : Nat → Nat} {cy : Nat → ClassId} {s11 : OS} : (cellsM ad cy s11)[50]? = some (ad 50, .inl (cy 0, 6, .inl (s11.1 74))) := rfl
theorem eM_51 {ad : Nat → Nat} {cy : Nat → ClassId} {s11 : OS} : (cellsM ad cy s11)[51]? = some (ad 51, .inl (cy 0, 6, .inl (s11.1 75))) := rfl
theorem eM_52 {ad : Nat → Nat} {cy : Nat → ClassId} {s11 : OS} : (cellsM ad cy s11)[52]? = some (ad 52, .inl (cy 0, 6, .inl (s11.1 76))) := rfl
theorem eM_53 {ad : Nat → Nat} {cy : Nat → ClassId} {s11 : OS} : (cellsM ad cy s11)[53]? = some (ad 53, .inl (cy 0, 6, .inl (s11.1 77))) := rfl
theorem eM_54 {ad : Nat → Nat} {cy : Nat → ClassId} {s11 : OS} : (cellsM ad cy s11)[54]? = some (ad 54, .inl (cy 0, 256, .inl (s11.1 78))) := rfl
theorem eM_55 {ad : Nat → Nat} {cy : Nat → ClassId} {s11 : OS} : (cellsM ad cy s11)[55]? = some (ad 55, .inl (cy 0, 256, .inl (s11.1 79))) := rfl
theorem eM_56 {ad : Nat → Nat} {cy : Nat → ClassId} {s11 : OS} : (cellsM ad cy s11)[56]? = some (ad 56, .inl (cy 0, 40, .inl (s11.1 80))) := rfl
theorem eM_57 {ad : Nat → Nat} {cy : Nat → ClassId} {s11 : OS} : (cellsM ad cy s11)[57]? = some (ad 57, .inl (cy 0, 40, .inl (s11.1 81))) := rfl
theorem eM_58 {ad : Nat → Nat} {cy : Nat → ClassId} {s11 : OS} : (cellsM ad cy s11)[58]? = some (ad 58, .inl (cy 0, 100, .inl (s11.1 82))) := rfl
theorem eM_59 {ad : Nat → Nat} {cy : Nat → ClassId} {s11 : OS} : (cellsM ad cy s11)[59]? = some (ad 59, .inl (cy 0, 100, .inl (s11.1 83))) := rfl
theorem eM_60 {ad : Nat → Nat} {cy : Nat → ClassId} {s11 : OS} : (cellsM ad cy s11)[60]? = some (ad 60, .inl (cy 0, 100, .inl (s11.1 84))) := rfl
theorem eM_61 {ad : Nat → Nat} {cy : Nat → ClassId} {s11 : OS} : (cellsM ad cy s11)[61]? = some (ad 61, .inl (cy 0, 6, .inl (s11.1 85))) := rfl
theorem eM_62 {ad : Nat → Nat} {cy : Nat → ClassId} {s11 : OS} : (cellsM ad cy s11)[62]? = some (ad 62, .inl (cy 0, 6, .inl (s11.1 86))) := rfl
theorem eM_63 {ad : Nat → Nat} {cy : Nat → ClassId} {s11 : OS} : (cellsM ad cy s11)[63]? = some (ad 63, .inl (cy 0, 6, .inl (s11.1 87))) := rfl
theorem eM_64 {ad : Nat → Nat} {cy : Nat → ClassId} {s11 : OS} : (cellsM ad cy s11)[64]? = some (ad 64, .inl (cy 0, 4, .inl (s11.1 88))) := rfl
theorem eM_65 {ad : Nat → Nat} {cy : Nat → ClassId} {s11 : OS} : (cellsM ad cy s11)[65]? = some (ad 65, .inl (cy 0, 6, .inl (s11.1 89))) := rfl
theorem fstM {ad : Nat → Nat} {cy : Nat → ClassId} {s11 : OS} : (cellsM ad cy s11).map Prod.fst = (List.range 66).map ad := rfl
theorem inX0 : ∀ w ∈ wsX00, w ∈ lw_g := by decide +kernel
theorem inX1 : ∀ w ∈ wsX10, w ∈ lw_g := by decide +kernel
theorem inX2 : ∀ w ∈ wsX20, w ∈ lw_g := by decide +kernel
theorem inX3 : ∀ w ∈ wsX30, w ∈ lw_g := by decide +kernel
theorem inX4 : ∀ w ∈ wsX40, w ∈ lw_g := by decide +kernel
theorem inX5 : ∀ w ∈ wsX50, w ∈ lw_g := by decide +kernel
theorem inX6 : ∀ w ∈ wsX60, w ∈ lw_g := by decide +kernel
theorem inX7 : ∀ w ∈ wsX70, w ∈ lw_g := by decide +kernel
theorem inX8 : ∀ w ∈ wsX80, w ∈ lw_g := by decide +kernel
theorem inX9 : ∀ w ∈ wsX90, w ∈ lw_g := by decide +kernel
theorem inX10 : ∀ w ∈ wsX100, w ∈ lw_g := by decide +kernel
theorem inX11 : ∀ w ∈ wsX110, w ∈ lw_g := by decide +kernel
