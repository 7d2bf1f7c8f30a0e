/-! equations of the methods, by program -/
set_option maxHeartbeats 4000000 in
set_option maxRecDepth 100000 in
theorem q_X_foldNotes (x0 : Nat) (x1 : Int64) (h : ab_H) : fn_X_foldNotes x0 x1 h = pt_X_foldNotes_5 x0 x1 x1 (0 : Int32) h := ab_go_eq cdT mxT (fun pc => Nat.beq pc 5) 35 199 0 _ [] h
set_option maxHeartbeats 4000000 in
set_option maxRecDepth 100000 in
theorem q_X_foldNotes_5 (x0 : Nat) (x1 x3 : Int64) (x5 : Int32) (h : ab_H) : pt_X_foldNotes_5 x0 x1 x3 x5 h = (ab_gfr h x0 10 0 fun v1 => (ab_gfr h v1 3 2 fun v2 => (ab_gfi h v2 1 0 fun v3 => (if v3 ≤ x5 then (some (some (.long x3), h)) else (ab_gfr h x0 10 0 fun v4 => (ab_gfr h v4 3 2 fun v5 => (ab_gfr h v5 1 1 fun v6 => (ab_iald h v6 x5 fun v7 => (ab_cL (fn_X_fold x3 (Int32.toInt64 v7) h) fun v9 h8 => (ab_gfr h8 x0 10 0 fun v10 => (ab_gfr h8 v10 3 2 fun v11 => (ab_gfr h8 v11 1 2 fun v12 => (ab_iald h8 v12 x5 fun v13 => (ab_cL (fn_X_fold v9 (Int32.toInt64 v13) h8) fun v15 h14 => pt_X_foldNotes_5 x0 x1 v15 (x5 + (1 : Int32)) h14)))))))))))))) := ab_go_eq cdT mxT (fun pc => Nat.beq pc 5) 35 199 5 _ _ h
set_option maxHeartbeats 4000000 in
set_option maxRecDepth 100000 in
theorem q_X_digest (x0 : Nat) (h : ab_H) : fn_X_digest x0 h = pt_X_digest_6 x0 (1153 : Int64) (0 : Int32) h := ab_go_eq cdT mxT (fun pc => Nat.beq pc 6) 39 200 0 _ [] h
set_option maxHeartbeats 4000000 in
set_option maxRecDepth 100000 in
theorem q_X_digest_6 (x0 : Nat) (x1 : Int64) (x3 : Int32) (h : ab_H) : pt_X_digest_6 x0 x1 x3 h = (if (6 : Int32) < x3 then (ab_ckc h x0 10 (ab_cL (fn_X_foldPitches x0 x1 h) fun v2 h1 => (ab_ckc h1 x0 10 (ab_cL (fn_X_foldClimbers x0 v2 h1) fun v4 h3 => (ab_ckc h3 x0 10 (ab_cL (fn_X_foldNotes x0 v4 h3) fun v6 h5 => (ab_gfl h5 x0 10 9 fun v7 => (ab_cL (fn_X_fold v6 v7 h5) fun v9 h8 => (ab_gfl h8 x0 10 10 fun v10 => (ab_cL (fn_X_fold v9 v10 h8) fun v12 h11 => (some (some (.long v12), h11)))))))))))) else (ab_ckc h x0 10 (ab_cI (fn_X_count x0 x3 h) fun v14 h13 => (ab_cL (fn_X_fold x1 (Int32.toInt64 v14) h13) fun v16 h15 => pt_X_digest_6 x0 v16 (x3 + (1 : Int32)) h15)))) := ab_go_eq cdT mxT (fun pc => Nat.beq pc 6) 39 200 6 _ _ h
set_option maxHeartbeats 4000000 in
set_option maxRecDepth 100000 in
theorem q_M_sums (x0 : Nat) (x1 : Int64) (x3 x4 : Int32) (h : ab_H) : fn_M_sums x0 x1 x3 x4 h = pt_M_sums_6 x0 x1 x3 x4 x1 (0 : Int32) h := ab_go_eq cdT mxT (fun pc => Nat.beq pc 6) 24 201 0 _ [] h
set_option maxHeartbeats 4000000 in
set_option maxRecDepth 100000 in
theorem q_M_sums_6 (x0 : Nat) (x1 : Int64) (x3 x4 : Int32) (x5 : Int64) (x7 : Int32) (h : ab_H) : pt_M_sums_6 x0 x1 x3 x4 x5 x7 h = (if x4 ≤ x7 then (some (some (.long x5), h)) else (ab_gfr h x0 11 0 fun v1 => (ab_iald h v1 (x3 + x7) fun v2 => pt_M_sums_6 x0 x1 x3 x4 (((31 : Int64) * x5) + (Int32.toInt64 v2)) (x7 + (1 : Int32)) h))) := ab_go_eq cdT mxT (fun pc => Nat.beq pc 6) 24 201 6 _ _ h
set_option maxHeartbeats 4000000 in
set_option maxRecDepth 100000 in
theorem q_M_digest (x0 : Nat) (h : ab_H) : fn_M_digest x0 h = pt_M_digest_6 x0 (1153 : Int64) (0 : Int32) h := ab_go_eq cdT mxT (fun pc => Nat.beq pc 6 || Nat.beq pc 43) 92 202 0 _ [] h
set_option maxHeartbeats 4000000 in
set_option maxRecDepth 100000 in
theorem q_M_digest_6 (x0 : Nat) (x1 : Int64) (x3 : Int32) (h : ab_H) : pt_M_digest_6 x0 x1 x3 h = (if (7 : Int32) ≤ x3 then (ab_ckc h x0 11 (ab_cL (fn_M_sums x0 x1 (6 : Int32) (32 : Int32) h) fun v2 h1 => pt_M_digest_43 x0 v2 (0 : Int32) h1)) else (ab_ckc h x0 11 (ab_cI (fn_M_counted x0 x3 h) fun v4 h3 => pt_M_digest_6 x0 (((31 : Int64) * x1) + (Int32.toInt64 v4)) (x3 + (1 : Int32)) h3))) := ab_go_eq cdT mxT (fun pc => Nat.beq pc 6 || Nat.beq pc 43) 92 202 6 _ _ h
set_option maxHeartbeats 4000000 in
set_option maxRecDepth 100000 in
theorem q_M_digest_43 (x0 : Nat) (x1 : Int64) (x3 : Int32) (h : ab_H) : pt_M_digest_43 x0 x1 x3 h = (ab_ckc h x0 11 (ab_cI (fn_M_many x0 h) fun v2 h1 => (if v2 ≤ x3 then (ab_gfr h1 x0 11 0 fun v3 => (ab_iald h1 v3 (4 : Int32) fun v4 => (ab_ckc h1 x0 11 (ab_cL (fn_M_sums x0 x1 (58 : Int32) ((2 : Int32) * v4) h1) fun v6 h5 => (ab_gfl h5 x0 11 4 fun v7 => (ab_gfl h5 x0 11 5 fun v8 => (some (some (.long (((31 : Int64) * (((31 : Int64) * v6) + v7)) + v8)), h5)))))))) else (ab_ckc h1 x0 11 (ab_cL (fn_M_sums x0 x1 ((38 : Int32) + ((4 : Int32) * x3)) (4 : Int32) h1) fun v10 h9 => (ab_gfr h9 x0 11 0 fun v11 => (ab_iald h9 v11 (2 : Int32) fun v12 => (ab_gfr h9 x0 11 0 fun v13 => (ab_iald h9 v13 (3 : Int32) fun v14 => pt_M_digest_43 x0 (((31 : Int64) * (((31 : Int64) * v10) + (Int32.toInt64 ((v12 >>> (x3 &&& 31)) &&& (1 : Int32))))) + (Int32.toInt64 ((v14 >>> (x3 &&& 31)) &&& (1 : Int32)))) (x3 + (1 : Int32)) h9))))))))) := ab_go_eq cdT mxT (fun pc => Nat.beq pc 6 || Nat.beq pc 43) 92 202 43 _ _ h
