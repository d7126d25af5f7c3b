def cs_ws (g : jj_G) (af0 : Nat → Int32) (af1 : Nat → Int32) : va_W := [(jj_ad g 0, .inr (7, [.ref (jj_ad g 1), .ref (jj_ad g 21), .ref (jj_ad g 41), .ref (jj_ad g 45), .ref (jj_ad g 48), .ref (jj_ad g 50), .ref (jj_ad g 59), .int 0])), (jj_ad g 1, .inr (6, [.ref (jj_ad g 2), .ref (jj_ad g 3), .ref (jj_ad g 4), .ref (jj_ad g 5), .ref (jj_ad g 6), .ref (jj_ad g 7), .ref (jj_ad g 8), .int 0, .int 1, .int 0, .int 0, .int 0, .int 0, .int 1])), (jj_ad g 2, cn_i (jj_ca g) 8 af0), (jj_ad g 3, cn_i (jj_ca g) 64 (fun _ => 0)), (jj_ad g 4, cn_i (jj_ca g) 64 (fun _ => 0)), (jj_ad g 5, cn_r (jj_ca g) 1 6 (va_up (va_up (va_up (va_up (va_up (va_up (fun _ => none) (Int32.toNatClampNeg 0) (some (jj_ad g 9))) (Int32.toNatClampNeg 1) (some (jj_ad g 10))) (Int32.toNatClampNeg 2) (some (jj_ad g 11))) (Int32.toNatClampNeg 3) (some (jj_ad g 12))) (Int32.toNatClampNeg 4) (some (jj_ad g 13))) (Int32.toNatClampNeg 5) (some (jj_ad g 14)))), (jj_ad g 6, cn_r (jj_ca g) 2 2 (va_up (va_up (fun _ => none) (Int32.toNatClampNeg 0) (some (jj_ad g 15))) (Int32.toNatClampNeg 1) (some (jj_ad g 18)))), (jj_ad g 7, cn_i (jj_ca g) 50 (fun _ => 0)), (jj_ad g 8, cn_i (jj_ca g) 20 (fun _ => 0)), (jj_ad g 9, .inr (1, [.int 0, .int 0, .int 0, .int (-1), .int 0, .int 0])), (jj_ad g 10, .inr (1, [.int 0, .int 0, .int 0, .int (-1), .int 0, .int 0])), (jj_ad g 11, .inr (1, [.int 0, .int 0, .int 0, .int (-1), .int 0, .int 0])), (jj_ad g 12, .inr (1, [.int 0, .int 0, .int 0, .int (-1), .int 0, .int 0])), (jj_ad g 13, .inr (1, [.int 0, .int 0, .int 0, .int (-1), .int 0, .int 0])), (jj_ad g 14, .inr (1, [.int 0, .int 0, .int 0, .int (-1), .int 0, .int 0])), (jj_ad g 15, .inr (0, [.ref (jj_ad g 16), .int 0, .int 0, .ref (jj_ad g 17)])), (jj_ad g 16, cn_i (jj_ca g) 50 (fun _ => 0)), (jj_ad g 17, cn_i (jj_ca g) 50 (fun _ => 0)), (jj_ad g 18, .inr (0, [.ref (jj_ad g 19), .int 0, .int 1, .ref (jj_ad g 20)])), (jj_ad g 19, cn_i (jj_ca g) 50 (fun _ => 0)), (jj_ad g 20, cn_i (jj_ca g) 50 (fun _ => 0)), (jj_ad g 21, .inr (6, [.ref (jj_ad g 22), .ref (jj_ad g 23), .ref (jj_ad g 24), .ref (jj_ad g 25), .ref (jj_ad g 26), .ref (jj_ad g 27), .ref (jj_ad g 28), .int 0, .int 1, .int 0, .int 0, .int 0, .int 0, .int 1])), (jj_ad g 22, cn_i (jj_ca g) 8 af1), (jj_ad g 23, cn_i (jj_ca g) 64 (fun _ => 0)), (jj_ad g 24, cn_i (jj_ca g) 64 (fun _ => 0)), (jj_ad g 25, cn_r (jj_ca g) 1 6 (va_up (va_up (va_up (va_up (va_up (va_up (fun _ => none) (Int32.toNatClampNeg 0) (some (jj_ad g 29))) (Int32.toNatClampNeg 1) (some (jj_ad g 30))) (Int32.toNatClampNeg 2) (some (jj_ad g 31))) (Int32.toNatClampNeg 3) (some (jj_ad g 32))) (Int32.toNatClampNeg 4) (some (jj_ad g 33))) (Int32.toNatClampNeg 5) (some (jj_ad g 34)))), (jj_ad g 26, cn_r (jj_ca g) 2 2 (va_up (va_up (fun _ => none) (Int32.toNatClampNeg 0) (some (jj_ad g 35))) (Int32.toNatClampNeg 1) (some (jj_ad g 38)))), (jj_ad g 27, cn_i (jj_ca g) 50 (fun _ => 0)), (jj_ad g 28, cn_i (jj_ca g) 20 (fun _ => 0)), (jj_ad g 29, .inr (1, [.int 0, .int 0, .int 0, .int (-1), .int 0, .int 0])), (jj_ad g 30, .inr (1, [.int 0, .int 0, .int 0, .int (-1), .int 0, .int 0])), (jj_ad g 31, .inr (1, [.int 0, .int 0, .int 0, .int (-1), .int 0, .int 0])), (jj_ad g 32, .inr (1, [.int 0, .int 0, .int 0, .int (-1), .int 0, .int 0])), (jj_ad g 33, .inr (1, [.int 0, .int 0, .int 0, .int (-1), .int 0, .int 0])), (jj_ad g 34, .inr (1, [.int 0, .int 0, .int 0, .int (-1), .int 0, .int 0])), (jj_ad g 35, .inr (0, [.ref (jj_ad g 36), .int 0, .int 0, .ref (jj_ad g 37)])), (jj_ad g 36, cn_i (jj_ca g) 50 (fun _ => 0)), (jj_ad g 37, cn_i (jj_ca g) 50 (fun _ => 0)), (jj_ad g 38, .inr (0, [.ref (jj_ad g 39), .int 0, .int 1, .ref (jj_ad g 40)])), (jj_ad g 39, cn_i (jj_ca g) 50 (fun _ => 0)), (jj_ad g 40, cn_i (jj_ca g) 50 (fun _ => 0)), (jj_ad g 41, .inr (5, [.int 0, .int 0, .int 0, .ref (jj_ad g 72), .ref (jj_ad g 42), .ref (jj_ad g 43), .ref (jj_ad g 44)])), (jj_ad g 42, cn_i (jj_ca g) 21 (fun _ => 0)), (jj_ad g 43, cn_i (jj_ca g) 8 (fun _ => 0)), (jj_ad g 44, cn_i (jj_ca g) 168 (fun _ => 0)), (jj_ad g 45, .inr (2, [.ref (jj_ad g 46), .int 0, .ref (jj_ad g 47), .int 0, .int 0, .int 0, .int 0, .int 0])), (jj_ad g 46, cn_i (jj_ca g) 50 (fun _ => 0)), (jj_ad g 47, cn_i (jj_ca g) 50 (fun _ => 0)), (jj_ad g 48, .inr (4, [.ref (jj_ad g 49), .int 0, .int 0, .int 0, .int 0])), (jj_ad g 49, cn_i (jj_ca g) 40 (fun _ => 0)), (jj_ad g 50, cn_r (jj_ca g) 3 4 (va_up (va_up (va_up (va_up (fun _ => none) (Int32.toNatClampNeg 0) (some (jj_ad g 51))) (Int32.toNatClampNeg 1) (some (jj_ad g 53))) (Int32.toNatClampNeg 2) (some (jj_ad g 55))) (Int32.toNatClampNeg 3) (some (jj_ad g 57)))), (jj_ad g 51, .inr (3, [.ref (jj_ad g 52), .int 0, .int 0])), (jj_ad g 52, cn_i (jj_ca g) 40 (fun _ => 0)), (jj_ad g 53, .inr (3, [.ref (jj_ad g 54), .int 0, .int 0])), (jj_ad g 54, cn_i (jj_ca g) 40 (fun _ => 0)), (jj_ad g 55, .inr (3, [.ref (jj_ad g 56), .int 0, .int 0])), (jj_ad g 56, cn_i (jj_ca g) 40 (fun _ => 0)), (jj_ad g 57, .inr (3, [.ref (jj_ad g 58), .int 0, .int 0])), (jj_ad g 58, cn_i (jj_ca g) 40 (fun _ => 0)), (jj_ad g 59, cn_i (jj_ca g) 6 (fun _ => 0)), (jj_ad g 60, .inr (8, [.ref (jj_ad g 61), .ref (jj_ad g 62), .ref (jj_ad g 63), .ref (jj_ad g 64), .int 0, .int 0, .int 0, .int 0, .int 0, .int 0, .int 0, .int 0, .int 0, .int 0, .ref (jj_ad g 65), .ref (jj_ad g 66), .ref (jj_ad g 67), .int 0, .int 0, .int 0, .int 0, .ref (jj_ad g 68), .ref (jj_ad g 69), .ref (jj_ad g 70), .ref (jj_ad g 71)])), (jj_ad g 61, cn_i (jj_ca g) 351 (upd (upd (upd (upd (upd (upd (upd (upd (upd (upd (upd (upd (fun _ => 0) (Int32.toNatClampNeg (0 + 0)) (9)) (Int32.toNatClampNeg (0 + 1)) (9)) (Int32.toNatClampNeg (0 + 2)) (9)) (Int32.toNatClampNeg (0 + 3)) (9)) (Int32.toNatClampNeg (0 + 4)) (9)) (Int32.toNatClampNeg (0 + 5)) (9)) (Int32.toNatClampNeg (0 + 6)) (9)) (Int32.toNatClampNeg (0 + 7)) (9)) (Int32.toNatClampNeg (136)) (1)) (Int32.toNatClampNeg (176)) (1)) (Int32.toNatClampNeg (179)) (-1)) (Int32.toNatClampNeg (180)) (-1))), (jj_ad g 62, cn_i (jj_ca g) 351 (fun _ => 0)), (jj_ad g 63, cn_i (jj_ca g) 176 (fun _ => 0)), (jj_ad g 64, cn_i (jj_ca g) 6 (fun _ => 0)), (jj_ad g 65, cn_i (jj_ca g) 296 (fun _ => 0)), (jj_ad g 66, cn_i (jj_ca g) 64 (fun _ => 0)), (jj_ad g 67, cn_i (jj_ca g) 40 (fun _ => 0)), (jj_ad g 68, cn_i (jj_ca g) 4 (fun _ => 0)), (jj_ad g 69, cn_i (jj_ca g) 4 (fun _ => 0)), (jj_ad g 70, cn_i (jj_ca g) 160 (fun _ => 0)), (jj_ad g 71, cn_i (jj_ca g) 40 (fun _ => 0)), (jj_ad g 72, cn_i (jj_ca g) 64 (fun _ => 0))]
def cs_mu (af0 : Nat → Int32) (af1 : Nat → Int32) : jj_M := fun k => ([(fun _ => 0), (fun j => if j = 13 then 1 else if j = 8 then 1 else 0), af0, (fun _ => 0), (fun _ => 0), (fun _ => 0), (fun _ => 0), (fun _ => 0), (fun _ => 0), (fun j => if j = 3 then ((-1)) else 0), (fun j => if j = 3 then ((-1)) else 0), (fun j => if j = 3 then ((-1)) else 0), (fun j => if j = 3 then ((-1)) else 0), (fun j => if j = 3 then ((-1)) else 0), (fun j => if j = 3 then ((-1)) else 0), (fun _ => 0), (fun _ => 0), (fun _ => 0), (fun j => if j = 2 then 1 else 0), (fun _ => 0), (fun _ => 0), (fun j => if j = 13 then 1 else if j = 8 then 1 else 0), af1, (fun _ => 0), (fun _ => 0), (fun _ => 0), (fun _ => 0), (fun _ => 0), (fun _ => 0), (fun j => if j = 3 then ((-1)) else 0), (fun j => if j = 3 then ((-1)) else 0), (fun j => if j = 3 then ((-1)) else 0), (fun j => if j = 3 then ((-1)) else 0), (fun j => if j = 3 then ((-1)) else 0), (fun j => if j = 3 then ((-1)) else 0), (fun _ => 0), (fun _ => 0), (fun _ => 0), (fun j => if j = 2 then 1 else 0), (fun _ => 0), (fun _ => 0), (fun _ => 0), (fun _ => 0), (fun _ => 0), (fun _ => 0), (fun _ => 0), (fun _ => 0), (fun _ => 0), (fun _ => 0), (fun _ => 0), (fun _ => 0), (fun _ => 0), (fun _ => 0), (fun _ => 0), (fun _ => 0), (fun _ => 0), (fun _ => 0), (fun _ => 0), (fun _ => 0), (fun _ => 0), (fun _ => 0), (upd (upd (upd (upd (upd (upd (upd (upd (upd (upd (upd (upd (fun _ => 0) (Int32.toNatClampNeg (0 + 0)) (9)) (Int32.toNatClampNeg (0 + 1)) (9)) (Int32.toNatClampNeg (0 + 2)) (9)) (Int32.toNatClampNeg (0 + 3)) (9)) (Int32.toNatClampNeg (0 + 4)) (9)) (Int32.toNatClampNeg (0 + 5)) (9)) (Int32.toNatClampNeg (0 + 6)) (9)) (Int32.toNatClampNeg (0 + 7)) (9)) (Int32.toNatClampNeg (136)) (1)) (Int32.toNatClampNeg (176)) (1)) (Int32.toNatClampNeg (179)) (-1)) (Int32.toNatClampNeg (180)) (-1)), (fun _ => 0), (fun _ => 0), (fun _ => 0), (fun _ => 0), (fun _ => 0), (fun _ => 0), (fun _ => 0), (fun _ => 0), (fun _ => 0), (fun _ => 0), (fun _ => 0)] : List (Nat → Int32)).getD k (fun _ => 0)
set_option maxRecDepth 100000 in
theorem jj_W_list (g : jj_G) (μ : jj_M) : jj_W g μ = [(jj_ad g 0, .inr (7, jj_e7 g 0 (μ 0))), (jj_ad g 1, .inr (6, jj_e6 g 1 (μ 1))), (jj_ad g 2, jj_ia g 8 (μ 2)), (jj_ad g 3, jj_ia g 64 (μ 3)), (jj_ad g 4, jj_ia g 64 (μ 4)), (jj_ad g 5, jj_ra g 1 6 (fun i => 5 + 4 + i)), (jj_ad g 6, jj_ra g 2 2 (fun i => 6 + 9 + 3 * i)), (jj_ad g 7, jj_ia g 50 (μ 7)), (jj_ad g 8, jj_ia g 20 (μ 8)), (jj_ad g 9, .inr (1, jj_e1 g 9 (μ 9))), (jj_ad g 10, .inr (1, jj_e1 g 10 (μ 10))), (jj_ad g 11, .inr (1, jj_e1 g 11 (μ 11))), (jj_ad g 12, .inr (1, jj_e1 g 12 (μ 12))), (jj_ad g 13, .inr (1, jj_e1 g 13 (μ 13))), (jj_ad g 14, .inr (1, jj_e1 g 14 (μ 14))), (jj_ad g 15, .inr (0, jj_e0 g 15 (μ 15))), (jj_ad g 16, jj_ia g 50 (μ 16)), (jj_ad g 17, jj_ia g 50 (μ 17)), (jj_ad g 18, .inr (0, jj_e0 g 18 (μ 18))), (jj_ad g 19, jj_ia g 50 (μ 19)), (jj_ad g 20, jj_ia g 50 (μ 20)), (jj_ad g 21, .inr (6, jj_e6 g 21 (μ 21))), (jj_ad g 22, jj_ia g 8 (μ 22)), (jj_ad g 23, jj_ia g 64 (μ 23)), (jj_ad g 24, jj_ia g 64 (μ 24)), (jj_ad g 25, jj_ra g 1 6 (fun i => 25 + 4 + i)), (jj_ad g 26, jj_ra g 2 2 (fun i => 26 + 9 + 3 * i)), (jj_ad g 27, jj_ia g 50 (μ 27)), (jj_ad g 28, jj_ia g 20 (μ 28)), (jj_ad g 29, .inr (1, jj_e1 g 29 (μ 29))), (jj_ad g 30, .inr (1, jj_e1 g 30 (μ 30))), (jj_ad g 31, .inr (1, jj_e1 g 31 (μ 31))), (jj_ad g 32, .inr (1, jj_e1 g 32 (μ 32))), (jj_ad g 33, .inr (1, jj_e1 g 33 (μ 33))), (jj_ad g 34, .inr (1, jj_e1 g 34 (μ 34))), (jj_ad g 35, .inr (0, jj_e0 g 35 (μ 35))), (jj_ad g 36, jj_ia g 50 (μ 36)), (jj_ad g 37, jj_ia g 50 (μ 37)), (jj_ad g 38, .inr (0, jj_e0 g 38 (μ 38))), (jj_ad g 39, jj_ia g 50 (μ 39)), (jj_ad g 40, jj_ia g 50 (μ 40)), (jj_ad g 41, .inr (5, jj_e5 g 41 (μ 41))), (jj_ad g 42, jj_ia g 21 (μ 42)), (jj_ad g 43, jj_ia g 8 (μ 43)), (jj_ad g 44, jj_ia g 168 (μ 44)), (jj_ad g 45, .inr (2, jj_e2 g 45 (μ 45))), (jj_ad g 46, jj_ia g 50 (μ 46)), (jj_ad g 47, jj_ia g 50 (μ 47)), (jj_ad g 48, .inr (4, jj_e4 g 48 (μ 48))), (jj_ad g 49, jj_ia g 40 (μ 49)), (jj_ad g 50, jj_ra g 3 4 (fun i => 50 + 1 + 2 * i)), (jj_ad g 51, .inr (3, jj_e3 g 51 (μ 51))), (jj_ad g 52, jj_ia g 40 (μ 52)), (jj_ad g 53, .inr (3, jj_e3 g 53 (μ 53))), (jj_ad g 54, jj_ia g 40 (μ 54)), (jj_ad g 55, .inr (3, jj_e3 g 55 (μ 55))), (jj_ad g 56, jj_ia g 40 (μ 56)), (jj_ad g 57, .inr (3, jj_e3 g 57 (μ 57))), (jj_ad g 58, jj_ia g 40 (μ 58)), (jj_ad g 59, jj_ia g 6 (μ 59)), (jj_ad g 60, .inr (8, jj_e8 g 60 (μ 60))), (jj_ad g 61, jj_ia g 351 (μ 61)), (jj_ad g 62, jj_ia g 351 (μ 62)), (jj_ad g 63, jj_ia g 176 (μ 63)), (jj_ad g 64, jj_ia g 6 (μ 64)), (jj_ad g 65, jj_ia g 296 (μ 65)), (jj_ad g 66, jj_ia g 64 (μ 66)), (jj_ad g 67, jj_ia g 40 (μ 67)), (jj_ad g 68, jj_ia g 4 (μ 68)), (jj_ad g 69, jj_ia g 4 (μ 69)), (jj_ad g 70, jj_ia g 160 (μ 70)), (jj_ad g 71, jj_ia g 40 (μ 71)), (jj_ad g 72, jj_ia g 64 (μ 72))] := rfl
theorem cs_r5 (g : jj_G) : cn_r (jj_ca g) 1 6 (va_up (va_up (va_up (va_up (va_up (va_up (fun _ => none) (Int32.toNatClampNeg 0) (some (jj_ad g 9))) (Int32.toNatClampNeg 1) (some (jj_ad g 10))) (Int32.toNatClampNeg 2) (some (jj_ad g 11))) (Int32.toNatClampNeg 3) (some (jj_ad g 12))) (Int32.toNatClampNeg 4) (some (jj_ad g 13))) (Int32.toNatClampNeg 5) (some (jj_ad g 14))) = jj_ra g 1 6 (fun i => 5 + 4 + i) := by
  have h : (va_up (va_up (va_up (va_up (va_up (va_up (fun _ => none) (Int32.toNatClampNeg 0) (some (jj_ad g 9))) (Int32.toNatClampNeg 1) (some (jj_ad g 10))) (Int32.toNatClampNeg 2) (some (jj_ad g 11))) (Int32.toNatClampNeg 3) (some (jj_ad g 12))) (Int32.toNatClampNeg 4) (some (jj_ad g 13))) (Int32.toNatClampNeg 5) (some (jj_ad g 14))) = (fun i => if i < 6 then some (jj_ad g ((fun i => 5 + 4 + i) i)) else none) := by
    funext i
    match i with
    | 0 => rfl
    | 1 => rfl
    | 2 => rfl
    | 3 => rfl
    | 4 => rfl
    | 5 => rfl
    | i + 6 => rw [if_neg (by omega)]; rfl
  unfold jj_ra cn_r; rw [h]
theorem cs_r6 (g : jj_G) : cn_r (jj_ca g) 2 2 (va_up (va_up (fun _ => none) (Int32.toNatClampNeg 0) (some (jj_ad g 15))) (Int32.toNatClampNeg 1) (some (jj_ad g 18))) = jj_ra g 2 2 (fun i => 6 + 9 + 3 * i) := by
  have h : (va_up (va_up (fun _ => none) (Int32.toNatClampNeg 0) (some (jj_ad g 15))) (Int32.toNatClampNeg 1) (some (jj_ad g 18))) = (fun i => if i < 2 then some (jj_ad g ((fun i => 6 + 9 + 3 * i) i)) else none) := by
    funext i
    match i with
    | 0 => rfl
    | 1 => rfl
    | i + 2 => rw [if_neg (by omega)]; rfl
  unfold jj_ra cn_r; rw [h]
theorem cs_r25 (g : jj_G) : cn_r (jj_ca g) 1 6 (va_up (va_up (va_up (va_up (va_up (va_up (fun _ => none) (Int32.toNatClampNeg 0) (some (jj_ad g 29))) (Int32.toNatClampNeg 1) (some (jj_ad g 30))) (Int32.toNatClampNeg 2) (some (jj_ad g 31))) (Int32.toNatClampNeg 3) (some (jj_ad g 32))) (Int32.toNatClampNeg 4) (some (jj_ad g 33))) (Int32.toNatClampNeg 5) (some (jj_ad g 34))) = jj_ra g 1 6 (fun i => 25 + 4 + i) := by
  have h : (va_up (va_up (va_up (va_up (va_up (va_up (fun _ => none) (Int32.toNatClampNeg 0) (some (jj_ad g 29))) (Int32.toNatClampNeg 1) (some (jj_ad g 30))) (Int32.toNatClampNeg 2) (some (jj_ad g 31))) (Int32.toNatClampNeg 3) (some (jj_ad g 32))) (Int32.toNatClampNeg 4) (some (jj_ad g 33))) (Int32.toNatClampNeg 5) (some (jj_ad g 34))) = (fun i => if i < 6 then some (jj_ad g ((fun i => 25 + 4 + i) i)) else none) := by
    funext i
    match i with
    | 0 => rfl
    | 1 => rfl
    | 2 => rfl
    | 3 => rfl
    | 4 => rfl
    | 5 => rfl
    | i + 6 => rw [if_neg (by omega)]; rfl
  unfold jj_ra cn_r; rw [h]
theorem cs_r26 (g : jj_G) : cn_r (jj_ca g) 2 2 (va_up (va_up (fun _ => none) (Int32.toNatClampNeg 0) (some (jj_ad g 35))) (Int32.toNatClampNeg 1) (some (jj_ad g 38))) = jj_ra g 2 2 (fun i => 26 + 9 + 3 * i) := by
  have h : (va_up (va_up (fun _ => none) (Int32.toNatClampNeg 0) (some (jj_ad g 35))) (Int32.toNatClampNeg 1) (some (jj_ad g 38))) = (fun i => if i < 2 then some (jj_ad g ((fun i => 26 + 9 + 3 * i) i)) else none) := by
    funext i
    match i with
    | 0 => rfl
    | 1 => rfl
    | i + 2 => rw [if_neg (by omega)]; rfl
  unfold jj_ra cn_r; rw [h]
theorem cs_r50 (g : jj_G) : cn_r (jj_ca g) 3 4 (va_up (va_up (va_up (va_up (fun _ => none) (Int32.toNatClampNeg 0) (some (jj_ad g 51))) (Int32.toNatClampNeg 1) (some (jj_ad g 53))) (Int32.toNatClampNeg 2) (some (jj_ad g 55))) (Int32.toNatClampNeg 3) (some (jj_ad g 57))) = jj_ra g 3 4 (fun i => 50 + 1 + 2 * i) := by
  have h : (va_up (va_up (va_up (va_up (fun _ => none) (Int32.toNatClampNeg 0) (some (jj_ad g 51))) (Int32.toNatClampNeg 1) (some (jj_ad g 53))) (Int32.toNatClampNeg 2) (some (jj_ad g 55))) (Int32.toNatClampNeg 3) (some (jj_ad g 57))) = (fun i => if i < 4 then some (jj_ad g ((fun i => 50 + 1 + 2 * i) i)) else none) := by
    funext i
    match i with
    | 0 => rfl
    | 1 => rfl
    | 2 => rfl
    | 3 => rfl
    | i + 4 => rw [if_neg (by omega)]; rfl
  unfold jj_ra cn_r; rw [h]
set_option maxRecDepth 100000 in
theorem cs_eq (g : jj_G) (af0 : Nat → Int32) (af1 : Nat → Int32) : cs_ws g af0 af1 = jj_W g (cs_mu af0 af1) := by
  rw [jj_W_list]
  unfold cs_ws
  rw [cs_r5, cs_r6, cs_r25, cs_r26, cs_r50]
  rfl
theorem sl_7 : Cond.classLink RL 7 RX7 ∈ jj_T := jj_in 90 (by decide +kernel) (by decide +kernel)
theorem sl_10 : Cond.classLink RL 10 RX8 ∈ jj_T := jj_in 871 (by decide +kernel) (by decide +kernel)
theorem sl_9 : Cond.methodLink RL 9 yX7_init ∈ jj_T := jj_in 92 (by decide +kernel) (by decide +kernel)
theorem sl_12 : Cond.methodLink RL 12 yX8_init ∈ jj_T := jj_in 873 (by decide +kernel) (by decide +kernel)
theorem ni_7 : Cond.instantiable RX7 8 ∈ jj_T := jj_in 91 (by decide +kernel) (by decide +kernel)
theorem nz_7 : Cond.initialized RX7 ∈ jj_T := jj_in 77 (by decide +kernel) (by decide +kernel)
theorem ni_8 : Cond.instantiable RX8 25 ∈ jj_T := jj_in 872 (by decide +kernel) (by decide +kernel)
theorem nz_8 : Cond.initialized RX8 ∈ jj_T := jj_in 86 (by decide +kernel) (by decide +kernel)
theorem jj_Nw.of {args : Array Value} {s : State} (hts : ∀ w ∈ lw_tbl, w.before args s = true) : jj_Nw s := ⟨va_Nw.of rfl (hts _ (List.mem_of_getElem? (i := 416) (by decide +kernel))), va_Nw.of rfl (hts _ (List.mem_of_getElem? (i := 485) (by decide +kernel))), va_Nw.of rfl (hts _ (List.mem_of_getElem? (i := 736) (by decide +kernel))), va_Nw.of rfl (hts _ (List.mem_of_getElem? (i := 765) (by decide +kernel))), va_Nw.of rfl (hts _ (List.mem_of_getElem? (i := 819) (by decide +kernel))), va_Nw.of rfl (hts _ (List.mem_of_getElem? (i := 486) (by decide +kernel))), va_Nw.of rfl (hts _ (List.mem_of_getElem? (i := 768) (by decide +kernel)))⟩
theorem cs_arrO {C : String} {args : Array Value} {s : State} (h : (Cond.arrayOver (.object C)).before args s = true) : va_AO C s ∧ ∃ c : ClassId, ArrOfT s c (.object C) ∧ va_RA s c (.object C) := by
  have h' : va_AO C s := h
  obtain ⟨comp, c, k, h1, h2, h3, h4, h5⟩ := Cond.arrayOver_spec h
  exact ⟨h', c, fun n z => ⟨fun k h => (by cases h), k, h3, comp, h4⟩, k, comp, h3, h4, h1, h5⟩
theorem cs_K {args : Array Value} {s : State} (hts : ∀ w ∈ lw_tbl, w.before args s = true) : ∃ (D : va_G) (ca : Nat → ClassId), va_K D vwCl (cn_ty ca) s ∧ cn_O s := by
  have ht : ∀ w ∈ jj_T, w.before args s = true := fun w hw => hts w (List.mem_filter.mp hw).1
  obtain ⟨c0, i0, hk0⟩ := u_known (C := RX0) (T := TX0) (N := 4) (n := 4) ht jj_inT0 (ht _ ni_0)
  obtain ⟨c1, i1, hk1⟩ := u_known (C := RX1) (T := TX1) (N := 6) (n := 6) ht jj_inT1 (ht _ ni_1)
  obtain ⟨c2, i2, hk2⟩ := u_known (C := RX2) (T := TX2) (N := 8) (n := 8) ht jj_inT2 (ht _ ni_2)
  obtain ⟨c3, i3, hk3⟩ := u_known (C := RX3) (T := TX3) (N := 3) (n := 3) ht jj_inT3 (ht _ ni_3)
  obtain ⟨c4, i4, hk4⟩ := u_known (C := RX4) (T := TX4) (N := 5) (n := 5) ht jj_inT4 (ht _ ni_4)
  obtain ⟨c5, i5, hk5⟩ := u_known (C := RX5) (T := TX5) (N := 7) (n := 7) ht jj_inT5 (ht _ ni_5)
  obtain ⟨c6, i6, hk6⟩ := u_known (C := RX6) (T := TX6) (N := 14) (n := 14) ht jj_inT6 (ht _ ni_6)
  obtain ⟨c7, i7, hk7⟩ := u_known (C := RX7) (T := TX7) (N := 8) (n := 8) ht jj_inT7 (ht _ ni_7)
  obtain ⟨c8, i8, hk8⟩ := u_known (C := RX8) (T := TX8) (N := 25) (n := 25) ht jj_inT8 (ht _ ni_8)
  obtain ⟨cI, kI, coI, f1, f2, f3⟩ := Cond.arrayClass_spec (ht _ nl_arr)
  obtain ⟨ho0, cO0, a0, r0⟩ := cs_arrO (C := RX1) (hts _ (List.mem_of_getElem? (i := 105) (by decide +kernel)))
  obtain ⟨ho1, cO1, a1, r1⟩ := cs_arrO (C := RX0) (hts _ (List.mem_of_getElem? (i := 107) (by decide +kernel)))
  obtain ⟨ho2, cO2, a2, r2⟩ := cs_arrO (C := RX3) (hts _ (List.mem_of_getElem? (i := 318) (by decide +kernel)))
  refine ⟨(fun k => ([c0, c1, c2, c3, c4, c5, c6, c7, c8] : List ClassId).getD k c0, fun k => ([i0, i1, i2, i3, i4, i5, i6, i7, i8] : List (Nat → Nat)).getD k i0), fun k => ([cI, cO0, cO1, cO2] : List ClassId).getD k cI, ⟨fun k q hq => ?_, fun k q hq => ?_⟩, ho0, ho1, ho2⟩
  · match k, hq with
    | 0, hq => cases hq; exact hk0
    | 1, hq => cases hq; exact hk1
    | 2, hq => cases hq; exact hk2
    | 3, hq => cases hq; exact hk3
    | 4, hq => cases hq; exact hk4
    | 5, hq => cases hq; exact hk5
    | 6, hq => cases hq; exact hk6
    | 7, hq => cases hq; exact hk7
    | 8, hq => cases hq; exact hk8
    | k + 9, hq => simp [vwCl] at hq
  · match k, hq with
    | 0, hq => cases hq; exact ⟨fun n z => ⟨fun k h => (by cases h), kI, f2, coI, f3⟩, f1⟩
    | 1, hq => cases hq; exact ⟨a0, r0⟩
    | 2, hq => cases hq; exact ⟨a1, r1⟩
    | 3, hq => cases hq; exact ⟨a2, r2⟩
    | k + 4, hq => simp [cn_ty] at hq
theorem cs_St {b : Nat} {s : State} (hts : ∀ w ∈ lw_tbl, w.before #[Value.ref b] s = true) (hgv : (Jvm.Cond.and given_1 narrow_1).before #[Value.ref b] s = true) : ∃ tK tB : Nat, ∀ (l : Launch) (D : va_G) (ca : Nat → ClassId) (ad : Nat → Nat), jj_St (l, D, ca, ad, tK, tB, fun q : Nat => s.heap.size ≤ q) s s.heap := by
  have hs := flat_of_before _ hgv
  have haKA : (Cond.arrayOf (Term.static "WellNames" "KIND_ABOVE" "[I") .int).before #[Value.ref b] s = true := hs _ (by decide +kernel)
  have hlKA : (Term.length (Term.static "WellNames" "KIND_ABOVE" "[I")).eval #[Value.ref b] s none [] s = some (.int (Int32.ofNat 7)) := va_eqv (hs (Cond.eq (.length (Term.static "WellNames" "KIND_ABOVE" "[I")) (.int 7)) (by decide +kernel)) rfl
  have heKA : ∀ j : Nat, j < 7 → (Term.elem (Term.static "WellNames" "KIND_ABOVE" "[I") (.int (Int32.ofNat j))).eval #[Value.ref b] s none [] s = some (.int (jj_KA j)) := by
    intro j hj
    match j, hj with
    | 0, _ => exact va_eqv (hs (Cond.eq (.elem (Term.static "WellNames" "KIND_ABOVE" "[I") (.int 0)) (.int (-1))) (by decide +kernel)) rfl
    | 1, _ => exact va_eqv (hs (Cond.eq (.elem (Term.static "WellNames" "KIND_ABOVE" "[I") (.int 1)) (.int (0))) (by decide +kernel)) rfl
    | 2, _ => exact va_eqv (hs (Cond.eq (.elem (Term.static "WellNames" "KIND_ABOVE" "[I") (.int 2)) (.int (0))) (by decide +kernel)) rfl
    | 3, _ => exact va_eqv (hs (Cond.eq (.elem (Term.static "WellNames" "KIND_ABOVE" "[I") (.int 3)) (.int (0))) (by decide +kernel)) rfl
    | 4, _ => exact va_eqv (hs (Cond.eq (.elem (Term.static "WellNames" "KIND_ABOVE" "[I") (.int 4)) (.int (1))) (by decide +kernel)) rfl
    | 5, _ => exact va_eqv (hs (Cond.eq (.elem (Term.static "WellNames" "KIND_ABOVE" "[I") (.int 5)) (.int (2))) (by decide +kernel)) rfl
    | 6, _ => exact va_eqv (hs (Cond.eq (.elem (Term.static "WellNames" "KIND_ABOVE" "[I") (.int 6)) (.int (3))) (by decide +kernel)) rfl
    | j + 7, hj => exact absurd hj (by omega)
  obtain ⟨tKA, qKA, hTKA⟩ := va_Tof (A := fun q : Nat => s.heap.size ≤ q) (by decide) haKA hlKA heKA (fun a ha => Nat.not_le.mpr ha)
  have haBO : (Cond.arrayOf (Term.static "WellNames$Voices" "BODY" "[I") .int).before #[Value.ref b] s = true := hs _ (by decide +kernel)
  have hlBO : (Term.length (Term.static "WellNames$Voices" "BODY" "[I")).eval #[Value.ref b] s none [] s = some (.int (Int32.ofNat 28)) := va_eqv (hs (Cond.eq (.length (Term.static "WellNames$Voices" "BODY" "[I")) (.int 28)) (by decide +kernel)) rfl
  have heBO : ∀ j : Nat, j < 28 → (Term.elem (Term.static "WellNames$Voices" "BODY" "[I") (.int (Int32.ofNat j))).eval #[Value.ref b] s none [] s = some (.int (jj_BO j)) := by
    intro j hj
    match j, hj with
    | 0, _ => exact va_eqv (hs (Cond.eq (.elem (Term.static "WellNames$Voices" "BODY" "[I") (.int 0)) (.int (10))) (by decide +kernel)) rfl
    | 1, _ => exact va_eqv (hs (Cond.eq (.elem (Term.static "WellNames$Voices" "BODY" "[I") (.int 1)) (.int (11))) (by decide +kernel)) rfl
    | 2, _ => exact va_eqv (hs (Cond.eq (.elem (Term.static "WellNames$Voices" "BODY" "[I") (.int 2)) (.int (12))) (by decide +kernel)) rfl
    | 3, _ => exact va_eqv (hs (Cond.eq (.elem (Term.static "WellNames$Voices" "BODY" "[I") (.int 3)) (.int (13))) (by decide +kernel)) rfl
    | 4, _ => exact va_eqv (hs (Cond.eq (.elem (Term.static "WellNames$Voices" "BODY" "[I") (.int 4)) (.int (20))) (by decide +kernel)) rfl
    | 5, _ => exact va_eqv (hs (Cond.eq (.elem (Term.static "WellNames$Voices" "BODY" "[I") (.int 5)) (.int (0))) (by decide +kernel)) rfl
    | 6, _ => exact va_eqv (hs (Cond.eq (.elem (Term.static "WellNames$Voices" "BODY" "[I") (.int 6)) (.int (0))) (by decide +kernel)) rfl
    | 7, _ => exact va_eqv (hs (Cond.eq (.elem (Term.static "WellNames$Voices" "BODY" "[I") (.int 7)) (.int (0))) (by decide +kernel)) rfl
    | 8, _ => exact va_eqv (hs (Cond.eq (.elem (Term.static "WellNames$Voices" "BODY" "[I") (.int 8)) (.int (0))) (by decide +kernel)) rfl
    | 9, _ => exact va_eqv (hs (Cond.eq (.elem (Term.static "WellNames$Voices" "BODY" "[I") (.int 9)) (.int (30))) (by decide +kernel)) rfl
    | 10, _ => exact va_eqv (hs (Cond.eq (.elem (Term.static "WellNames$Voices" "BODY" "[I") (.int 10)) (.int (0))) (by decide +kernel)) rfl
    | 11, _ => exact va_eqv (hs (Cond.eq (.elem (Term.static "WellNames$Voices" "BODY" "[I") (.int 11)) (.int (0))) (by decide +kernel)) rfl
    | 12, _ => exact va_eqv (hs (Cond.eq (.elem (Term.static "WellNames$Voices" "BODY" "[I") (.int 12)) (.int (0))) (by decide +kernel)) rfl
    | 13, _ => exact va_eqv (hs (Cond.eq (.elem (Term.static "WellNames$Voices" "BODY" "[I") (.int 13)) (.int (0))) (by decide +kernel)) rfl
    | 14, _ => exact va_eqv (hs (Cond.eq (.elem (Term.static "WellNames$Voices" "BODY" "[I") (.int 14)) (.int (40))) (by decide +kernel)) rfl
    | 15, _ => exact va_eqv (hs (Cond.eq (.elem (Term.static "WellNames$Voices" "BODY" "[I") (.int 15)) (.int (0))) (by decide +kernel)) rfl
    | 16, _ => exact va_eqv (hs (Cond.eq (.elem (Term.static "WellNames$Voices" "BODY" "[I") (.int 16)) (.int (0))) (by decide +kernel)) rfl
    | 17, _ => exact va_eqv (hs (Cond.eq (.elem (Term.static "WellNames$Voices" "BODY" "[I") (.int 17)) (.int (0))) (by decide +kernel)) rfl
    | 18, _ => exact va_eqv (hs (Cond.eq (.elem (Term.static "WellNames$Voices" "BODY" "[I") (.int 18)) (.int (0))) (by decide +kernel)) rfl
    | 19, _ => exact va_eqv (hs (Cond.eq (.elem (Term.static "WellNames$Voices" "BODY" "[I") (.int 19)) (.int (50))) (by decide +kernel)) rfl
    | 20, _ => exact va_eqv (hs (Cond.eq (.elem (Term.static "WellNames$Voices" "BODY" "[I") (.int 20)) (.int (0))) (by decide +kernel)) rfl
    | 21, _ => exact va_eqv (hs (Cond.eq (.elem (Term.static "WellNames$Voices" "BODY" "[I") (.int 21)) (.int (60))) (by decide +kernel)) rfl
    | 22, _ => exact va_eqv (hs (Cond.eq (.elem (Term.static "WellNames$Voices" "BODY" "[I") (.int 22)) (.int (0))) (by decide +kernel)) rfl
    | 23, _ => exact va_eqv (hs (Cond.eq (.elem (Term.static "WellNames$Voices" "BODY" "[I") (.int 23)) (.int (0))) (by decide +kernel)) rfl
    | 24, _ => exact va_eqv (hs (Cond.eq (.elem (Term.static "WellNames$Voices" "BODY" "[I") (.int 24)) (.int (0))) (by decide +kernel)) rfl
    | 25, _ => exact va_eqv (hs (Cond.eq (.elem (Term.static "WellNames$Voices" "BODY" "[I") (.int 25)) (.int (0))) (by decide +kernel)) rfl
    | 26, _ => exact va_eqv (hs (Cond.eq (.elem (Term.static "WellNames$Voices" "BODY" "[I") (.int 26)) (.int (70))) (by decide +kernel)) rfl
    | 27, _ => exact va_eqv (hs (Cond.eq (.elem (Term.static "WellNames$Voices" "BODY" "[I") (.int 27)) (.int (71))) (by decide +kernel)) rfl
    | j + 28, hj => exact absurd hj (by omega)
  obtain ⟨tBO, qBO, hTBO⟩ := va_Tof (A := fun q : Nat => s.heap.size ≤ q) (by decide) haBO hlBO heBO (fun a ha => Nat.not_le.mpr ha)
  refine ⟨tKA, tBO, fun l D ca ad => ⟨va_Zref (hts _ (List.mem_of_getElem? (i := 487) (by decide +kernel))) (hts _ (List.mem_of_getElem? (i := 77) (by decide +kernel))) qKA (fun a ha => Nat.not_le.mpr ha), hTKA, va_Zref (hts _ (List.mem_of_getElem? (i := 767) (by decide +kernel))) (hts _ (List.mem_of_getElem? (i := 84) (by decide +kernel))) qBO (fun a ha => Nat.not_le.mpr ha), hTBO⟩⟩
