/-! the world: the cells of the class and of the reference, by number; a store is what their places hold -/
abbrev NC : Nat := 73
abbrev Sto : Type := (Nat → Nat → Int32) × (Nat → Int64)
/-- addresses of the cells; classes of arrays (int, char, boolean, State); classes and slots; static arrays; texts; their bytes; a value of the JDK -/
abbrev Wld : Type := (Nat → Nat) × (Nat → ClassId) × va_G × (Nat → Nat) × (Nat → Nat) × (Nat → Nat) × Value
abbrev tyL (G : Wld) : List (ClassId × FieldType) := [(G.2.1 0, .int), (G.2.1 1, .char), (G.2.1 2, .boolean), (G.2.1 3, .object "ShadowAlms$State")]
def ceF (G : Wld) (k : Nat) (f : Nat → Int32) (d : Int64) : va_E := match k with
  | 0 => .inr (7, [.ref (G.1 1), .ref (G.1 4), .ref (G.1 10), .ref (G.1 14), .ref (G.1 23), .ref (G.1 24), .ref (G.1 26), .ref (G.1 28), .ref (G.1 34), .ref (G.1 36)])
  | 1 => .inr (2, [.ref (G.1 2), .ref (G.1 3)])
  | 2 => .inl (G.2.1 0, (5, .inl f))
  | 3 => .inl (G.2.1 0, (90, .inl f))
  | 4 => .inr (3, [.ref (G.1 5), .ref (G.1 6), .int (f 2), .ref (G.1 7), .int (f 4), .int (f 5), .int (f 6)])
  | 5 => .inl (G.2.1 1, (500, .inl f))
  | 6 => .inl (G.2.1 0, (3, .inl f))
  | 7 => .inr (2, [.ref (G.1 8), .ref (G.1 9)])
  | 8 => .inl (G.2.1 0, (5, .inl f))
  | 9 => .inl (G.2.1 0, (90, .inl f))
  | 10 => .inr (6, [.ref (G.1 11), .ref (G.1 12), .ref (G.1 13), .int (f 3), .int (f 4), .int (f 5), .int (f 6)])
  | 11 => .inl (G.2.1 0, (6, .inl f))
  | 12 => .inl (G.2.1 0, (4, .inl f))
  | 13 => .inl (G.2.1 0, (6, .inl f))
  | 14 => .inl (G.2.1 3, (2, .inr (.inr (.inr (.inr (fun j => if j = 0 then some (G.1 15) else some (G.1 19)))))))
  | 15 => .inr (6, [.ref (G.1 16), .ref (G.1 17), .ref (G.1 18), .int (f 3), .int (f 4), .int (f 5), .int (f 6)])
  | 16 => .inl (G.2.1 0, (6, .inl f))
  | 17 => .inl (G.2.1 0, (4, .inl f))
  | 18 => .inl (G.2.1 0, (6, .inl f))
  | 19 => .inr (6, [.ref (G.1 20), .ref (G.1 21), .ref (G.1 22), .int (f 3), .int (f 4), .int (f 5), .int (f 6)])
  | 20 => .inl (G.2.1 0, (6, .inl f))
  | 21 => .inl (G.2.1 0, (4, .inl f))
  | 22 => .inl (G.2.1 0, (6, .inl f))
  | 23 => .inl (G.2.1 2, (2, .inl f))
  | 24 => .inr (4, [.int (f 0), .ref (G.1 25), .int (f 2)])
  | 25 => .inl (G.2.1 0, (40, .inl f))
  | 26 => .inr (4, [.int (f 0), .ref (G.1 27), .int (f 2)])
  | 27 => .inl (G.2.1 0, (120, .inl f))
  | 28 => .inr (5, [.ref (G.1 1), .int (f 1), .int (f 2), .int (f 3), .ref (G.1 29), .ref (G.1 30), .ref (G.1 31), .ref (G.1 32), .ref (G.1 33)])
  | 29 => .inl (G.2.1 0, (7, .inl f))
  | 30 => .inl (G.2.1 0, (7, .inl f))
  | 31 => .inl (G.2.1 0, (7, .inl f))
  | 32 => .inl (G.2.1 0, (7, .inl f))
  | 33 => .inl (G.2.1 0, (6, .inl f))
  | 34 => .inr (1, [.ref (G.1 1), .ref (G.1 28), .int (f 2), .int (f 3), .int (f 4), .ref (G.1 35)])
  | 35 => .inl (G.2.1 0, (6, .inl f))
  | 36 => .inr (0, [.ref (G.1 1), .ref (G.1 28), .ref (G.1 37), .int (f 3), .int (f 4), .ref (G.1 38)])
  | 37 => .inl (G.2.1 0, (4, .inl f))
  | 38 => .inl (G.2.1 0, (4, .inl f))
  | 39 => .inr (8, [.int (f 0), .int (f 1), .ref (G.1 40), .ref (G.1 41), .int (f 4), .ref (G.1 42), .ref (G.1 43), .ref (G.1 44), .int (f 8), .ref (G.1 45), .int (f 10), .ref (G.1 46), .ref (G.1 47), .int (f 13), .ref (G.1 48), .ref (G.1 49), .ref (G.1 50), .int (f 17), .int (f 18), .int (f 19), .ref (G.1 51), .int (f 21), .int (f 22), .int (f 23), .long d, .int (f 25), .int (f 26), .int (f 27), .int (f 28), .int (f 29), .int (f 30), .ref (G.1 52), .ref (G.1 53), .int (f 33), .ref (G.1 54), .ref (G.1 55), .ref (G.1 56), .int (f 37), .ref (G.1 57), .int (f 39), .ref (G.1 58), .ref (G.1 59), .ref (G.1 60), .ref (G.1 61), .ref (G.1 62), .ref (G.1 63), .ref (G.1 64), .int (f 47), .int (f 48), .ref (G.1 65), .ref (G.1 66), .ref (G.1 67), .int (f 52), .ref (G.1 68), .ref (G.1 69), .ref (G.1 70), .ref (G.1 71), .ref (G.1 72)])
  | 40 => .inl (G.2.1 0, (4, .inl f))
  | 41 => .inl (G.2.1 0, (4, .inl f))
  | 42 => .inl (G.2.1 0, (6, .inl f))
  | 43 => .inl (G.2.1 0, (6, .inl f))
  | 44 => .inl (G.2.1 0, (6, .inl f))
  | 45 => .inl (G.2.1 0, (7, .inl f))
  | 46 => .inl (G.2.1 0, (4, .inl f))
  | 47 => .inl (G.2.1 0, (4, .inl f))
  | 48 => .inl (G.2.1 0, (7, .inl f))
  | 49 => .inl (G.2.1 0, (7, .inl f))
  | 50 => .inl (G.2.1 0, (6, .inl f))
  | 51 => .inl (G.2.1 0, (500, .inl f))
  | 52 => .inl (G.2.1 0, (4, .inl f))
  | 53 => .inl (G.2.1 0, (4, .inl f))
  | 54 => .inl (G.2.1 0, (6, .inl f))
  | 55 => .inl (G.2.1 0, (6, .inl f))
  | 56 => .inl (G.2.1 0, (6, .inl f))
  | 57 => .inl (G.2.1 0, (6, .inl f))
  | 58 => .inl (G.2.1 0, (4, .inl f))
  | 59 => .inl (G.2.1 0, (4, .inl f))
  | 60 => .inl (G.2.1 0, (7, .inl f))
  | 61 => .inl (G.2.1 0, (7, .inl f))
  | 62 => .inl (G.2.1 0, (6, .inl f))
  | 63 => .inl (G.2.1 0, (6, .inl f))
  | 64 => .inl (G.2.1 0, (6, .inl f))
  | 65 => .inl (G.2.1 0, (10, .inl f))
  | 66 => .inl (G.2.1 0, (10, .inl f))
  | 67 => .inl (G.2.1 0, (10, .inl f))
  | 68 => .inl (G.2.1 0, (30, .inl f))
  | 69 => .inl (G.2.1 0, (30, .inl f))
  | 70 => .inl (G.2.1 0, (30, .inl f))
  | 71 => .inl (G.2.1 0, (50, .inl f))
  | 72 => .inl (G.2.1 2, (2, .inl f))
  | _ => .inl (G.2.1 0, (0, .inl f))
theorem ce_0 (G : Wld) (f : Nat → Int32) (d : Int64) : ceF G 0 f d = .inr (7, [.ref (G.1 1), .ref (G.1 4), .ref (G.1 10), .ref (G.1 14), .ref (G.1 23), .ref (G.1 24), .ref (G.1 26), .ref (G.1 28), .ref (G.1 34), .ref (G.1 36)]) := rfl
theorem ce_1 (G : Wld) (f : Nat → Int32) (d : Int64) : ceF G 1 f d = .inr (2, [.ref (G.1 2), .ref (G.1 3)]) := rfl
theorem ce_2 (G : Wld) (f : Nat → Int32) (d : Int64) : ceF G 2 f d = .inl (G.2.1 0, (5, .inl f)) := rfl
theorem ce_3 (G : Wld) (f : Nat → Int32) (d : Int64) : ceF G 3 f d = .inl (G.2.1 0, (90, .inl f)) := rfl
theorem ce_4 (G : Wld) (f : Nat → Int32) (d : Int64) : ceF G 4 f d = .inr (3, [.ref (G.1 5), .ref (G.1 6), .int (f 2), .ref (G.1 7), .int (f 4), .int (f 5), .int (f 6)]) := rfl
theorem ce_5 (G : Wld) (f : Nat → Int32) (d : Int64) : ceF G 5 f d = .inl (G.2.1 1, (500, .inl f)) := rfl
theorem ce_6 (G : Wld) (f : Nat → Int32) (d : Int64) : ceF G 6 f d = .inl (G.2.1 0, (3, .inl f)) := rfl
theorem ce_7 (G : Wld) (f : Nat → Int32) (d : Int64) : ceF G 7 f d = .inr (2, [.ref (G.1 8), .ref (G.1 9)]) := rfl
theorem ce_8 (G : Wld) (f : Nat → Int32) (d : Int64) : ceF G 8 f d = .inl (G.2.1 0, (5, .inl f)) := rfl
theorem ce_9 (G : Wld) (f : Nat → Int32) (d : Int64) : ceF G 9 f d = .inl (G.2.1 0, (90, .inl f)) := rfl
theorem ce_10 (G : Wld) (f : Nat → Int32) (d : Int64) : ceF G 10 f d = .inr (6, [.ref (G.1 11), .ref (G.1 12), .ref (G.1 13), .int (f 3), .int (f 4), .int (f 5), .int (f 6)]) := rfl
theorem ce_11 (G : Wld) (f : Nat → Int32) (d : Int64) : ceF G 11 f d = .inl (G.2.1 0, (6, .inl f)) := rfl
theorem ce_12 (G : Wld) (f : Nat → Int32) (d : Int64) : ceF G 12 f d = .inl (G.2.1 0, (4, .inl f)) := rfl
theorem ce_13 (G : Wld) (f : Nat → Int32) (d : Int64) : ceF G 13 f d = .inl (G.2.1 0, (6, .inl f)) := rfl
theorem ce_14 (G : Wld) (f : Nat → Int32) (d : Int64) : ceF G 14 f d = .inl (G.2.1 3, (2, .inr (.inr (.inr (.inr (fun j => if j = 0 then some (G.1 15) else some (G.1 19))))))) := rfl
theorem ce_15 (G : Wld) (f : Nat → Int32) (d : Int64) : ceF G 15 f d = .inr (6, [.ref (G.1 16), .ref (G.1 17), .ref (G.1 18), .int (f 3), .int (f 4), .int (f 5), .int (f 6)]) := rfl
theorem ce_16 (G : Wld) (f : Nat → Int32) (d : Int64) : ceF G 16 f d = .inl (G.2.1 0, (6, .inl f)) := rfl
theorem ce_17 (G : Wld) (f : Nat → Int32) (d : Int64) : ceF G 17 f d = .inl (G.2.1 0, (4, .inl f)) := rfl
theorem ce_18 (G : Wld) (f : Nat → Int32) (d : Int64) : ceF G 18 f d = .inl (G.2.1 0, (6, .inl f)) := rfl
theorem ce_19 (G : Wld) (f : Nat → Int32) (d : Int64) : ceF G 19 f d = .inr (6, [.ref (G.1 20), .ref (G.1 21), .ref (G.1 22), .int (f 3), .int (f 4), .int (f 5), .int (f 6)]) := rfl
theorem ce_20 (G : Wld) (f : Nat → Int32) (d : Int64) : ceF G 20 f d = .inl (G.2.1 0, (6, .inl f)) := rfl
theorem ce_21 (G : Wld) (f : Nat → Int32) (d : Int64) : ceF G 21 f d = .inl (G.2.1 0, (4, .inl f)) := rfl
theorem ce_22 (G : Wld) (f : Nat → Int32) (d : Int64) : ceF G 22 f d = .inl (G.2.1 0, (6, .inl f)) := rfl
theorem ce_23 (G : Wld) (f : Nat → Int32) (d : Int64) : ceF G 23 f d = .inl (G.2.1 2, (2, .inl f)) := rfl
theorem ce_24 (G : Wld) (f : Nat → Int32) (d : Int64) : ceF G 24 f d = .inr (4, [.int (f 0), .ref (G.1 25), .int (f 2)]) := rfl
theorem ce_25 (G : Wld) (f : Nat → Int32) (d : Int64) : ceF G 25 f d = .inl (G.2.1 0, (40, .inl f)) := rfl
theorem ce_26 (G : Wld) (f : Nat → Int32) (d : Int64) : ceF G 26 f d = .inr (4, [.int (f 0), .ref (G.1 27), .int (f 2)]) := rfl
theorem ce_27 (G : Wld) (f : Nat → Int32) (d : Int64) : ceF G 27 f d = .inl (G.2.1 0, (120, .inl f)) := rfl
theorem ce_28 (G : Wld) (f : Nat → Int32) (d : Int64) : ceF G 28 f d = .inr (5, [.ref (G.1 1), .int (f 1), .int (f 2), .int (f 3), .ref (G.1 29), .ref (G.1 30), .ref (G.1 31), .ref (G.1 32), .ref (G.1 33)]) := rfl
theorem ce_29 (G : Wld) (f : Nat → Int32) (d : Int64) : ceF G 29 f d = .inl (G.2.1 0, (7, .inl f)) := rfl
theorem ce_30 (G : Wld) (f : Nat → Int32) (d : Int64) : ceF G 30 f d = .inl (G.2.1 0, (7, .inl f)) := rfl
theorem ce_31 (G : Wld) (f : Nat → Int32) (d : Int64) : ceF G 31 f d = .inl (G.2.1 0, (7, .inl f)) := rfl
theorem ce_32 (G : Wld) (f : Nat → Int32) (d : Int64) : ceF G 32 f d = .inl (G.2.1 0, (7, .inl f)) := rfl
theorem ce_33 (G : Wld) (f : Nat → Int32) (d : Int64) : ceF G 33 f d = .inl (G.2.1 0, (6, .inl f)) := rfl
theorem ce_34 (G : Wld) (f : Nat → Int32) (d : Int64) : ceF G 34 f d = .inr (1, [.ref (G.1 1), .ref (G.1 28), .int (f 2), .int (f 3), .int (f 4), .ref (G.1 35)]) := rfl
theorem ce_35 (G : Wld) (f : Nat → Int32) (d : Int64) : ceF G 35 f d = .inl (G.2.1 0, (6, .inl f)) := rfl
theorem ce_36 (G : Wld) (f : Nat → Int32) (d : Int64) : ceF G 36 f d = .inr (0, [.ref (G.1 1), .ref (G.1 28), .ref (G.1 37), .int (f 3), .int (f 4), .ref (G.1 38)]) := rfl
theorem ce_37 (G : Wld) (f : Nat → Int32) (d : Int64) : ceF G 37 f d = .inl (G.2.1 0, (4, .inl f)) := rfl
theorem ce_38 (G : Wld) (f : Nat → Int32) (d : Int64) : ceF G 38 f d = .inl (G.2.1 0, (4, .inl f)) := rfl
theorem ce_39 (G : Wld) (f : Nat → Int32) (d : Int64) : ceF G 39 f d = .inr (8, [.int (f 0), .int (f 1), .ref (G.1 40), .ref (G.1 41), .int (f 4), .ref (G.1 42), .ref (G.1 43), .ref (G.1 44), .int (f 8), .ref (G.1 45), .int (f 10), .ref (G.1 46), .ref (G.1 47), .int (f 13), .ref (G.1 48), .ref (G.1 49), .ref (G.1 50), .int (f 17), .int (f 18), .int (f 19), .ref (G.1 51), .int (f 21), .int (f 22), .int (f 23), .long d, .int (f 25), .int (f 26), .int (f 27), .int (f 28), .int (f 29), .int (f 30), .ref (G.1 52), .ref (G.1 53), .int (f 33), .ref (G.1 54), .ref (G.1 55), .ref (G.1 56), .int (f 37), .ref (G.1 57), .int (f 39), .ref (G.1 58), .ref (G.1 59), .ref (G.1 60), .ref (G.1 61), .ref (G.1 62), .ref (G.1 63), .ref (G.1 64), .int (f 47), .int (f 48), .ref (G.1 65), .ref (G.1 66), .ref (G.1 67), .int (f 52), .ref (G.1 68), .ref (G.1 69), .ref (G.1 70), .ref (G.1 71), .ref (G.1 72)]) := rfl
theorem ce_40 (G : Wld) (f : Nat → Int32) (d : Int64) : ceF G 40 f d = .inl (G.2.1 0, (4, .inl f)) := rfl
theorem ce_41 (G : Wld) (f : Nat → Int32) (d : Int64) : ceF G 41 f d = .inl (G.2.1 0, (4, .inl f)) := rfl
theorem ce_42 (G : Wld) (f : Nat → Int32) (d : Int64) : ceF G 42 f d = .inl (G.2.1 0, (6, .inl f)) := rfl
theorem ce_43 (G : Wld) (f : Nat → Int32) (d : Int64) : ceF G 43 f d = .inl (G.2.1 0, (6, .inl f)) := rfl
theorem ce_44 (G : Wld) (f : Nat → Int32) (d : Int64) : ceF G 44 f d = .inl (G.2.1 0, (6, .inl f)) := rfl
theorem ce_45 (G : Wld) (f : Nat → Int32) (d : Int64) : ceF G 45 f d = .inl (G.2.1 0, (7, .inl f)) := rfl
theorem ce_46 (G : Wld) (f : Nat → Int32) (d : Int64) : ceF G 46 f d = .inl (G.2.1 0, (4, .inl f)) := rfl
theorem ce_47 (G : Wld) (f : Nat → Int32) (d : Int64) : ceF G 47 f d = .inl (G.2.1 0, (4, .inl f)) := rfl
theorem ce_48 (G : Wld) (f : Nat → Int32) (d : Int64) : ceF G 48 f d = .inl (G.2.1 0, (7, .inl f)) := rfl
theorem ce_49 (G : Wld) (f : Nat → Int32) (d : Int64) : ceF G 49 f d = .inl (G.2.1 0, (7, .inl f)) := rfl
theorem ce_50 (G : Wld) (f : Nat → Int32) (d : Int64) : ceF G 50 f d = .inl (G.2.1 0, (6, .inl f)) := rfl
theorem ce_51 (G : Wld) (f : Nat → Int32) (d : Int64) : ceF G 51 f d = .inl (G.2.1 0, (500, .inl f)) := rfl
theorem ce_52 (G : Wld) (f : Nat → Int32) (d : Int64) : ceF G 52 f d = .inl (G.2.1 0, (4, .inl f)) := rfl
theorem ce_53 (G : Wld) (f : Nat → Int32) (d : Int64) : ceF G 53 f d = .inl (G.2.1 0, (4, .inl f)) := rfl
theorem ce_54 (G : Wld) (f : Nat → Int32) (d : Int64) : ceF G 54 f d = .inl (G.2.1 0, (6, .inl f)) := rfl
theorem ce_55 (G : Wld) (f : Nat → Int32) (d : Int64) : ceF G 55 f d = .inl (G.2.1 0, (6, .inl f)) := rfl
theorem ce_56 (G : Wld) (f : Nat → Int32) (d : Int64) : ceF G 56 f d = .inl (G.2.1 0, (6, .inl f)) := rfl
theorem ce_57 (G : Wld) (f : Nat → Int32) (d : Int64) : ceF G 57 f d = .inl (G.2.1 0, (6, .inl f)) := rfl
theorem ce_58 (G : Wld) (f : Nat → Int32) (d : Int64) : ceF G 58 f d = .inl (G.2.1 0, (4, .inl f)) := rfl
theorem ce_59 (G : Wld) (f : Nat → Int32) (d : Int64) : ceF G 59 f d = .inl (G.2.1 0, (4, .inl f)) := rfl
theorem ce_60 (G : Wld) (f : Nat → Int32) (d : Int64) : ceF G 60 f d = .inl (G.2.1 0, (7, .inl f)) := rfl
theorem ce_61 (G : Wld) (f : Nat → Int32) (d : Int64) : ceF G 61 f d = .inl (G.2.1 0, (7, .inl f)) := rfl
theorem ce_62 (G : Wld) (f : Nat → Int32) (d : Int64) : ceF G 62 f d = .inl (G.2.1 0, (6, .inl f)) := rfl
theorem ce_63 (G : Wld) (f : Nat → Int32) (d : Int64) : ceF G 63 f d = .inl (G.2.1 0, (6, .inl f)) := rfl
theorem ce_64 (G : Wld) (f : Nat → Int32) (d : Int64) : ceF G 64 f d = .inl (G.2.1 0, (6, .inl f)) := rfl
theorem ce_65 (G : Wld) (f : Nat → Int32) (d : Int64) : ceF G 65 f d = .inl (G.2.1 0, (10, .inl f)) := rfl
theorem ce_66 (G : Wld) (f : Nat → Int32) (d : Int64) : ceF G 66 f d = .inl (G.2.1 0, (10, .inl f)) := rfl
theorem ce_67 (G : Wld) (f : Nat → Int32) (d : Int64) : ceF G 67 f d = .inl (G.2.1 0, (10, .inl f)) := rfl
theorem ce_68 (G : Wld) (f : Nat → Int32) (d : Int64) : ceF G 68 f d = .inl (G.2.1 0, (30, .inl f)) := rfl
theorem ce_69 (G : Wld) (f : Nat → Int32) (d : Int64) : ceF G 69 f d = .inl (G.2.1 0, (30, .inl f)) := rfl
theorem ce_70 (G : Wld) (f : Nat → Int32) (d : Int64) : ceF G 70 f d = .inl (G.2.1 0, (30, .inl f)) := rfl
theorem ce_71 (G : Wld) (f : Nat → Int32) (d : Int64) : ceF G 71 f d = .inl (G.2.1 0, (50, .inl f)) := rfl
theorem ce_72 (G : Wld) (f : Nat → Int32) (d : Int64) : ceF G 72 f d = .inl (G.2.1 2, (2, .inl f)) := rfl
def WS (G : Wld) (σ : Sto) : va_W := (List.range NC).map (fun k => (G.1 k, ceF G k (σ.1 k) (σ.2 k)))
def sc (σ : Sto) (k : Nat) (f : Nat → Int32) : Sto := (fun j => if j = k then f else σ.1 j, σ.2)
def su (σ : Sto) (k j : Nat) (v : Int32) : Sto := sc σ k (upd (σ.1 k) j v)
def sl (σ : Sto) (k : Nat) (v : Int64) : Sto := (σ.1, fun j => if j = k then v else σ.2 j)
theorem WS_at {G : Wld} {σ : Sto} {k : Nat} (hk : k < NC) : (WS G σ)[k]? = some (G.1 k, ceF G k (σ.1 k) (σ.2 k)) := by
  unfold WS
  rw [List.getElem?_map, List.getElem?_range hk]
  rfl
theorem WS_len (G : Wld) (σ : Sto) : (WS G σ).length = NC := by
  unfold WS
  rw [List.length_map, List.length_range]
theorem WS_sc {G : Wld} {σ : Sto} {k : Nat} (f : Nat → Int32) {e : va_E} (he : ceF G k f (σ.2 k) = e) : (WS G σ).set k (G.1 k, e) = WS G (sc σ k f) := by
  apply List.ext_getElem?
  intro i
  rcases Nat.lt_or_ge i NC with h | h
  · rw [WS_at h, List.getElem?_set]
    by_cases hi : k = i
    · subst hi
      rw [if_pos rfl, if_pos (by rw [WS_len]; exact h), ← he]
      show _ = some (G.1 k, ceF G k (if k = k then f else σ.1 k) (σ.2 k))
      rw [if_pos rfl]
    · rw [if_neg hi, WS_at h]
      show _ = some (G.1 i, ceF G i (if i = k then f else σ.1 i) (σ.2 i))
      rw [if_neg (fun h => hi h.symm)]
  · rw [List.getElem?_eq_none (by rw [List.length_set, WS_len]; exact h), List.getElem?_eq_none (by rw [WS_len]; exact h)]
theorem WS_sl {G : Wld} {σ : Sto} {k : Nat} (v : Int64) {e : va_E} (he : ceF G k (σ.1 k) v = e) : (WS G σ).set k (G.1 k, e) = WS G (sl σ k v) := by
  apply List.ext_getElem?
  intro i
  rcases Nat.lt_or_ge i NC with h | h
  · rw [WS_at h, List.getElem?_set]
    by_cases hi : k = i
    · subst hi
      rw [if_pos rfl, if_pos (by rw [WS_len]; exact h), ← he]
      show _ = some (G.1 k, ceF G k (σ.1 k) (if k = k then v else σ.2 k))
      rw [if_pos rfl]
    · rw [if_neg hi, WS_at h]
      show _ = some (G.1 i, ceF G i (σ.1 i) (if i = k then v else σ.2 i))
      rw [if_neg (fun h => hi h.symm)]
  · rw [List.getElem?_eq_none (by rw [List.length_set, WS_len]; exact h), List.getElem?_eq_none (by rw [WS_len]; exact h)]
theorem WS_D {G : Wld} {σ : Sto} {A : Nat → Prop} (hi : ∀ i j, i < NC → j < NC → G.1 i = G.1 j → i = j) (hA : ∀ k, k < NC → A (G.1 k)) : va_D A (WS G σ) := by
  have lt : ∀ {k : Nat} {q : Nat × va_E}, (WS G σ)[k]? = some q → k < NC := fun h => by
    have := (List.getElem?_eq_some_iff.mp h).1
    rwa [WS_len] at this
  refine ⟨fun i j p q h1 h2 e => ?_, fun k q h => ?_⟩
  · have a1 := lt h1
    have a2 := lt h2
    rw [WS_at a1] at h1
    rw [WS_at a2] at h2
    cases h1
    cases h2
    exact hi i j a1 a2 e
  · have a1 := lt h
    rw [WS_at a1] at h
    cases h
    exact hA k a1
theorem su_same (σ : Sto) (k j : Nat) (v : Int32) : (su σ k j v).1 k = upd (σ.1 k) j v := by
  show (if k = k then _ else _) = _
  rw [if_pos rfl]
theorem su_ne {σ : Sto} {k j a : Nat} {v : Int32} (h : a ≠ k) : (su σ k j v).1 a = σ.1 a := by
  show (if a = k then _ else _) = _
  rw [if_neg h]
theorem sc_same (σ : Sto) (k : Nat) (f : Nat → Int32) : (sc σ k f).1 k = f := by
  show (if k = k then _ else _) = _
  rw [if_pos rfl]
theorem sc_ne {σ : Sto} {k a : Nat} {f : Nat → Int32} (h : a ≠ k) : (sc σ k f).1 a = σ.1 a := by
  show (if a = k then _ else _) = _
  rw [if_neg h]
/-- which addresses are the world's -/
def AS (G : Wld) : Nat → Prop := fun q => ∃ k, k < NC ∧ q = G.1 k

