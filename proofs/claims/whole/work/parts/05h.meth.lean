/-- TrunkRadioModel.odds -/
def fX6_odds (k : Nat) : Nat → Nat → Int32 → Int32 → Int32 → Int32 → Int32 → Int32 → Int32 → Int32 → Int32 → Int32 → Int32 → Int32 → Int32 → ra_W → Option (Int32 × ra_W)
  | 0, _, _, _, _, _, _, _, _, _, _, _, _, _, _, _ => none
  | n + 1, L, v1, v2, v3, v4, v5, v6, v7, v8, v9, v10, v11, s0, s1, w => match L with
    | 0 => ra_bind (FX6_in k v1 0 10 (ra_st w 134 0 0)) (fun r1 w2 => if r1 = 0 then (some ((-1), w2)) else (ra_bind (FX6_isRadio k v2 w2) (fun r5 w6 => if r5 = 0 then (some ((-1), w6)) else (ra_bind (FX6_in k v3 1 20 w6) (fun r9 w10 => if r9 = 0 then (some ((-1), w10)) else (ra_bind (FX6_in k v4 0 1 w10) (fun r13 w14 => if r13 = 0 then (some ((-1), w14)) else (fX6_odds k n 1 v1 v2 v3 v4 0 1 0 0 0 0 0 0 0 w14))))))))
    | 1 => if (w 136 0) ≤ v7 then (fX6_odds k n 3 v1 v2 v3 v4 v5 v6 0 0 0 0 0 0 0 w) else (if v7 = v2 then (fX6_odds k n 2 v1 v2 v3 v4 v5 v6 v7 0 0 0 0 0 0 w) else (if ra_in (13 + v7) 41 then if (w 139 (ra_ix (13 + v7))) = 0 then (fX6_odds k n 2 v1 v2 v3 v4 (v5 ||| (1 <<< (v7 &&& 31))) (v6 * 10) v7 0 0 0 0 0 0 w) else (fX6_odds k n 2 v1 v2 v3 v4 v5 v6 v7 0 0 0 0 0 0 w) else none))
    | 2 => fX6_odds k n 1 v1 v2 v3 v4 v5 v6 (v7 + 1) 0 0 0 0 0 0 w
    | 3 => if (1 <<< ((w 136 0) &&& 31)) ≤ v8 then (ra_bind (FX6_gcd k v7 v6 w) (fun r2 w3 => if v4 = 0 then (if ¬ r2 = 0 then some ((v7 / r2), w3) else none) else (if ¬ r2 = 0 then some ((v6 / r2), w3) else none))) else (if (v8 &&& (v5 ^^^ (-1))) = 0 then (fX6_odds k n 4 v1 v2 v3 v4 v5 v6 v7 v8 1 0 0 0 0 w) else (fX6_odds k n 10 v1 v2 v3 v4 v5 v6 v7 v8 0 0 0 0 0 w))
    | 4 => if (w 136 0) ≤ v10 then (ra_bind (FX6_presses2 k (v8 ||| (1 <<< (v2 &&& 31))) w) (fun _ w3 => fX6_odds k n 6 v1 v2 v3 v4 v5 v6 v7 v8 v9 0 0 0 0 w3)) else (ra_bind (FX6_has k v5 v10 w) (fun r5 w6 => if r5 = 0 then (fX6_odds k n 5 v1 v2 v3 v4 v5 v6 v7 v8 0 v10 0 1 v9 w6) else (ra_bind (FX6_has k v8 v10 w6) (fun r9 w10 => if r9 = 0 then (fX6_odds k n 5 v1 v2 v3 v4 v5 v6 v7 v8 0 v10 0 (10 - v1) v9 w10) else (fX6_odds k n 5 v1 v2 v3 v4 v5 v6 v7 v8 0 v10 0 v1 v9 w10)))))
    | 5 => fX6_odds k n 4 v1 v2 v3 v4 v5 v6 v7 v8 (s1 * s0) (v10 + 1) 0 0 0 w
    | 6 => if v3 ≤ v11 then (if v10 = 0 then (fX6_odds k n 9 v1 v2 v3 v4 v5 v6 0 v8 0 0 0 0 v7 w) else (fX6_odds k n 9 v1 v2 v3 v4 v5 v6 0 v8 0 0 0 v9 v7 w)) else (ra_bind (FX6_goes k 140 w) (fun _ w4 => if v10 = 0 then (ra_bind (FX6_isOn k 140 v2 w4) (fun r7 w8 => if r7 = 0 then (fX6_odds k n 8 v1 v2 v3 v4 v5 v6 v7 v8 v9 0 v11 0 0 w8) else (fX6_odds k n 7 v1 v2 v3 v4 v5 v6 v7 v8 v9 0 v11 0 0 w8))) else (fX6_odds k n 7 v1 v2 v3 v4 v5 v6 v7 v8 v9 0 v11 0 0 w4)))
    | 7 => fX6_odds k n 8 v1 v2 v3 v4 v5 v6 v7 v8 v9 0 v11 1 0 w
    | 8 => fX6_odds k n 6 v1 v2 v3 v4 v5 v6 v7 v8 v9 s0 (v11 + 1) 0 0 w
    | 9 => fX6_odds k n 10 v1 v2 v3 v4 v5 v6 (s1 + s0) v8 0 0 0 0 0 w
    | _ => fX6_odds k n 3 v1 v2 v3 v4 v5 v6 v7 (v8 + 1) 0 0 0 0 0 w
theorem fX6_odds_0 (k : Nat) (n : Nat) (v1 : Int32) (v2 : Int32) (v3 : Int32) (v4 : Int32) (v5 : Int32) (v6 : Int32) (v7 : Int32) (v8 : Int32) (v9 : Int32) (v10 : Int32) (v11 : Int32) (s0 : Int32) (s1 : Int32) (w : ra_W) : fX6_odds k (n + 1) 0 v1 v2 v3 v4 v5 v6 v7 v8 v9 v10 v11 s0 s1 w = (ra_bind (FX6_in k v1 0 10 (ra_st w 134 0 0)) (fun r1 w2 => if r1 = 0 then (some ((-1), w2)) else (ra_bind (FX6_isRadio k v2 w2) (fun r5 w6 => if r5 = 0 then (some ((-1), w6)) else (ra_bind (FX6_in k v3 1 20 w6) (fun r9 w10 => if r9 = 0 then (some ((-1), w10)) else (ra_bind (FX6_in k v4 0 1 w10) (fun r13 w14 => if r13 = 0 then (some ((-1), w14)) else (fX6_odds k n 1 v1 v2 v3 v4 0 1 0 0 0 0 0 0 0 w14))))))))) := rfl
theorem fX6_odds_1 (k : Nat) (n : Nat) (v1 : Int32) (v2 : Int32) (v3 : Int32) (v4 : Int32) (v5 : Int32) (v6 : Int32) (v7 : Int32) (v8 : Int32) (v9 : Int32) (v10 : Int32) (v11 : Int32) (s0 : Int32) (s1 : Int32) (w : ra_W) : fX6_odds k (n + 1) 1 v1 v2 v3 v4 v5 v6 v7 v8 v9 v10 v11 s0 s1 w = (if (w 136 0) ≤ v7 then (fX6_odds k n 3 v1 v2 v3 v4 v5 v6 0 0 0 0 0 0 0 w) else (if v7 = v2 then (fX6_odds k n 2 v1 v2 v3 v4 v5 v6 v7 0 0 0 0 0 0 w) else (if ra_in (13 + v7) 41 then if (w 139 (ra_ix (13 + v7))) = 0 then (fX6_odds k n 2 v1 v2 v3 v4 (v5 ||| (1 <<< (v7 &&& 31))) (v6 * 10) v7 0 0 0 0 0 0 w) else (fX6_odds k n 2 v1 v2 v3 v4 v5 v6 v7 0 0 0 0 0 0 w) else none))) := rfl
theorem fX6_odds_2 (k : Nat) (n : Nat) (v1 : Int32) (v2 : Int32) (v3 : Int32) (v4 : Int32) (v5 : Int32) (v6 : Int32) (v7 : Int32) (v8 : Int32) (v9 : Int32) (v10 : Int32) (v11 : Int32) (s0 : Int32) (s1 : Int32) (w : ra_W) : fX6_odds k (n + 1) 2 v1 v2 v3 v4 v5 v6 v7 v8 v9 v10 v11 s0 s1 w = (fX6_odds k n 1 v1 v2 v3 v4 v5 v6 (v7 + 1) 0 0 0 0 0 0 w) := rfl
theorem fX6_odds_3 (k : Nat) (n : Nat) (v1 : Int32) (v2 : Int32) (v3 : Int32) (v4 : Int32) (v5 : Int32) (v6 : Int32) (v7 : Int32) (v8 : Int32) (v9 : Int32) (v10 : Int32) (v11 : Int32) (s0 : Int32) (s1 : Int32) (w : ra_W) : fX6_odds k (n + 1) 3 v1 v2 v3 v4 v5 v6 v7 v8 v9 v10 v11 s0 s1 w = (if (1 <<< ((w 136 0) &&& 31)) ≤ v8 then (ra_bind (FX6_gcd k v7 v6 w) (fun r2 w3 => if v4 = 0 then (if ¬ r2 = 0 then some ((v7 / r2), w3) else none) else (if ¬ r2 = 0 then some ((v6 / r2), w3) else none))) else (if (v8 &&& (v5 ^^^ (-1))) = 0 then (fX6_odds k n 4 v1 v2 v3 v4 v5 v6 v7 v8 1 0 0 0 0 w) else (fX6_odds k n 10 v1 v2 v3 v4 v5 v6 v7 v8 0 0 0 0 0 w))) := rfl
theorem fX6_odds_4 (k : Nat) (n : Nat) (v1 : Int32) (v2 : Int32) (v3 : Int32) (v4 : Int32) (v5 : Int32) (v6 : Int32) (v7 : Int32) (v8 : Int32) (v9 : Int32) (v10 : Int32) (v11 : Int32) (s0 : Int32) (s1 : Int32) (w : ra_W) : fX6_odds k (n + 1) 4 v1 v2 v3 v4 v5 v6 v7 v8 v9 v10 v11 s0 s1 w = (if (w 136 0) ≤ v10 then (ra_bind (FX6_presses2 k (v8 ||| (1 <<< (v2 &&& 31))) w) (fun _ w3 => fX6_odds k n 6 v1 v2 v3 v4 v5 v6 v7 v8 v9 0 0 0 0 w3)) else (ra_bind (FX6_has k v5 v10 w) (fun r5 w6 => if r5 = 0 then (fX6_odds k n 5 v1 v2 v3 v4 v5 v6 v7 v8 0 v10 0 1 v9 w6) else (ra_bind (FX6_has k v8 v10 w6) (fun r9 w10 => if r9 = 0 then (fX6_odds k n 5 v1 v2 v3 v4 v5 v6 v7 v8 0 v10 0 (10 - v1) v9 w10) else (fX6_odds k n 5 v1 v2 v3 v4 v5 v6 v7 v8 0 v10 0 v1 v9 w10)))))) := rfl
theorem fX6_odds_5 (k : Nat) (n : Nat) (v1 : Int32) (v2 : Int32) (v3 : Int32) (v4 : Int32) (v5 : Int32) (v6 : Int32) (v7 : Int32) (v8 : Int32) (v9 : Int32) (v10 : Int32) (v11 : Int32) (s0 : Int32) (s1 : Int32) (w : ra_W) : fX6_odds k (n + 1) 5 v1 v2 v3 v4 v5 v6 v7 v8 v9 v10 v11 s0 s1 w = (fX6_odds k n 4 v1 v2 v3 v4 v5 v6 v7 v8 (s1 * s0) (v10 + 1) 0 0 0 w) := rfl
theorem fX6_odds_6 (k : Nat) (n : Nat) (v1 : Int32) (v2 : Int32) (v3 : Int32) (v4 : Int32) (v5 : Int32) (v6 : Int32) (v7 : Int32) (v8 : Int32) (v9 : Int32) (v10 : Int32) (v11 : Int32) (s0 : Int32) (s1 : Int32) (w : ra_W) : fX6_odds k (n + 1) 6 v1 v2 v3 v4 v5 v6 v7 v8 v9 v10 v11 s0 s1 w = (if v3 ≤ v11 then (if v10 = 0 then (fX6_odds k n 9 v1 v2 v3 v4 v5 v6 0 v8 0 0 0 0 v7 w) else (fX6_odds k n 9 v1 v2 v3 v4 v5 v6 0 v8 0 0 0 v9 v7 w)) else (ra_bind (FX6_goes k 140 w) (fun _ w4 => if v10 = 0 then (ra_bind (FX6_isOn k 140 v2 w4) (fun r7 w8 => if r7 = 0 then (fX6_odds k n 8 v1 v2 v3 v4 v5 v6 v7 v8 v9 0 v11 0 0 w8) else (fX6_odds k n 7 v1 v2 v3 v4 v5 v6 v7 v8 v9 0 v11 0 0 w8))) else (fX6_odds k n 7 v1 v2 v3 v4 v5 v6 v7 v8 v9 0 v11 0 0 w4)))) := rfl
theorem fX6_odds_7 (k : Nat) (n : Nat) (v1 : Int32) (v2 : Int32) (v3 : Int32) (v4 : Int32) (v5 : Int32) (v6 : Int32) (v7 : Int32) (v8 : Int32) (v9 : Int32) (v10 : Int32) (v11 : Int32) (s0 : Int32) (s1 : Int32) (w : ra_W) : fX6_odds k (n + 1) 7 v1 v2 v3 v4 v5 v6 v7 v8 v9 v10 v11 s0 s1 w = (fX6_odds k n 8 v1 v2 v3 v4 v5 v6 v7 v8 v9 0 v11 1 0 w) := rfl
theorem fX6_odds_8 (k : Nat) (n : Nat) (v1 : Int32) (v2 : Int32) (v3 : Int32) (v4 : Int32) (v5 : Int32) (v6 : Int32) (v7 : Int32) (v8 : Int32) (v9 : Int32) (v10 : Int32) (v11 : Int32) (s0 : Int32) (s1 : Int32) (w : ra_W) : fX6_odds k (n + 1) 8 v1 v2 v3 v4 v5 v6 v7 v8 v9 v10 v11 s0 s1 w = (fX6_odds k n 6 v1 v2 v3 v4 v5 v6 v7 v8 v9 s0 (v11 + 1) 0 0 w) := rfl
theorem fX6_odds_9 (k : Nat) (n : Nat) (v1 : Int32) (v2 : Int32) (v3 : Int32) (v4 : Int32) (v5 : Int32) (v6 : Int32) (v7 : Int32) (v8 : Int32) (v9 : Int32) (v10 : Int32) (v11 : Int32) (s0 : Int32) (s1 : Int32) (w : ra_W) : fX6_odds k (n + 1) 9 v1 v2 v3 v4 v5 v6 v7 v8 v9 v10 v11 s0 s1 w = (fX6_odds k n 10 v1 v2 v3 v4 v5 v6 (s1 + s0) v8 0 0 0 0 0 w) := rfl
theorem fX6_odds_10 (k : Nat) (n : Nat) (v1 : Int32) (v2 : Int32) (v3 : Int32) (v4 : Int32) (v5 : Int32) (v6 : Int32) (v7 : Int32) (v8 : Int32) (v9 : Int32) (v10 : Int32) (v11 : Int32) (s0 : Int32) (s1 : Int32) (w : ra_W) : fX6_odds k (n + 1) 10 v1 v2 v3 v4 v5 v6 v7 v8 v9 v10 v11 s0 s1 w = (fX6_odds k n 3 v1 v2 v3 v4 v5 v6 v7 (v8 + 1) 0 0 0 0 0 w) := rfl
def FX6_odds (k : Nat) (v1 : Int32) (v2 : Int32) (v3 : Int32) (v4 : Int32) (w : ra_W) : Option (Int32 × ra_W) := fX6_odds k k 0 v1 v2 v3 v4 0 0 0 0 0 0 0 0 0 w
def pX6_odds_0 (Z : ra_Z) (r : Int32) (w1 : ra_W) (k : Nat) (n : Nat) : Prop := ∀ (v1 : Int32) (v2 : Int32) (v3 : Int32) (v4 : Int32) (v5 : Int32) (v6 : Int32) (v7 : Int32) (v8 : Int32) (v9 : Int32) (v10 : Int32) (v11 : Int32) (s0 : Int32) (s1 : Int32) (w : ra_W), fX6_odds k n 0 v1 v2 v3 v4 v5 v6 v7 v8 v9 v10 v11 s0 s1 w = some (r, w1) → ra_J Z 12 0 [(0, .ref ((zG Z).1 134)), (1, .int v1), (2, .int v2), (3, .int v3), (4, .int v4)] [] w
def pX6_odds_1 (Z : ra_Z) (r : Int32) (w1 : ra_W) (k : Nat) (n : Nat) : Prop := ∀ (v1 : Int32) (v2 : Int32) (v3 : Int32) (v4 : Int32) (v5 : Int32) (v6 : Int32) (v7 : Int32) (v8 : Int32) (v9 : Int32) (v10 : Int32) (v11 : Int32) (s0 : Int32) (s1 : Int32) (w : ra_W), fX6_odds k n 1 v1 v2 v3 v4 v5 v6 v7 v8 v9 v10 v11 s0 s1 w = some (r, w1) → ra_J Z 12 54 [(0, .ref ((zG Z).1 134)), (1, .int v1), (2, .int v2), (3, .int v3), (4, .int v4), (5, .int v5), (6, .int v6), (7, .int v7)] [] w
def pX6_odds_2 (Z : ra_Z) (r : Int32) (w1 : ra_W) (k : Nat) (n : Nat) : Prop := ∀ (v1 : Int32) (v2 : Int32) (v3 : Int32) (v4 : Int32) (v5 : Int32) (v6 : Int32) (v7 : Int32) (v8 : Int32) (v9 : Int32) (v10 : Int32) (v11 : Int32) (s0 : Int32) (s1 : Int32) (w : ra_W), fX6_odds k n 2 v1 v2 v3 v4 v5 v6 v7 v8 v9 v10 v11 s0 s1 w = some (r, w1) → ra_J Z 12 100 [(0, .ref ((zG Z).1 134)), (1, .int v1), (2, .int v2), (3, .int v3), (4, .int v4), (5, .int v5), (6, .int v6), (7, .int v7)] [] w
def pX6_odds_3 (Z : ra_Z) (r : Int32) (w1 : ra_W) (k : Nat) (n : Nat) : Prop := ∀ (v1 : Int32) (v2 : Int32) (v3 : Int32) (v4 : Int32) (v5 : Int32) (v6 : Int32) (v7 : Int32) (v8 : Int32) (v9 : Int32) (v10 : Int32) (v11 : Int32) (s0 : Int32) (s1 : Int32) (w : ra_W), fX6_odds k n 3 v1 v2 v3 v4 v5 v6 v7 v8 v9 v10 v11 s0 s1 w = some (r, w1) → ra_J Z 12 112 [(0, .ref ((zG Z).1 134)), (1, .int v1), (2, .int v2), (3, .int v3), (4, .int v4), (5, .int v5), (6, .int v6), (7, .int v7), (8, .int v8)] [] w
def pX6_odds_4 (Z : ra_Z) (r : Int32) (w1 : ra_W) (k : Nat) (n : Nat) : Prop := ∀ (v1 : Int32) (v2 : Int32) (v3 : Int32) (v4 : Int32) (v5 : Int32) (v6 : Int32) (v7 : Int32) (v8 : Int32) (v9 : Int32) (v10 : Int32) (v11 : Int32) (s0 : Int32) (s1 : Int32) (w : ra_W), fX6_odds k n 4 v1 v2 v3 v4 v5 v6 v7 v8 v9 v10 v11 s0 s1 w = some (r, w1) → ra_J Z 12 141 [(0, .ref ((zG Z).1 134)), (1, .int v1), (2, .int v2), (3, .int v3), (4, .int v4), (5, .int v5), (6, .int v6), (7, .int v7), (8, .int v8), (9, .int v9), (10, .int v10)] [] w
def pX6_odds_5 (Z : ra_Z) (r : Int32) (w1 : ra_W) (k : Nat) (n : Nat) : Prop := ∀ (v1 : Int32) (v2 : Int32) (v3 : Int32) (v4 : Int32) (v5 : Int32) (v6 : Int32) (v7 : Int32) (v8 : Int32) (v9 : Int32) (v10 : Int32) (v11 : Int32) (s0 : Int32) (s1 : Int32) (w : ra_W), fX6_odds k n 5 v1 v2 v3 v4 v5 v6 v7 v8 v9 v10 v11 s0 s1 w = some (r, w1) → ra_J Z 12 186 [(0, .ref ((zG Z).1 134)), (1, .int v1), (2, .int v2), (3, .int v3), (4, .int v4), (5, .int v5), (6, .int v6), (7, .int v7), (8, .int v8), (10, .int v10)] [.int s0, .int s1] w
def pX6_odds_6 (Z : ra_Z) (r : Int32) (w1 : ra_W) (k : Nat) (n : Nat) : Prop := ∀ (v1 : Int32) (v2 : Int32) (v3 : Int32) (v4 : Int32) (v5 : Int32) (v6 : Int32) (v7 : Int32) (v8 : Int32) (v9 : Int32) (v10 : Int32) (v11 : Int32) (s0 : Int32) (s1 : Int32) (w : ra_W), fX6_odds k n 6 v1 v2 v3 v4 v5 v6 v7 v8 v9 v10 v11 s0 s1 w = some (r, w1) → ra_J Z 12 211 [(0, .ref ((zG Z).1 134)), (1, .int v1), (2, .int v2), (3, .int v3), (4, .int v4), (5, .int v5), (6, .int v6), (7, .int v7), (8, .int v8), (9, .int v9), (10, .int v10), (11, .int v11)] [] w
def pX6_odds_7 (Z : ra_Z) (r : Int32) (w1 : ra_W) (k : Nat) (n : Nat) : Prop := ∀ (v1 : Int32) (v2 : Int32) (v3 : Int32) (v4 : Int32) (v5 : Int32) (v6 : Int32) (v7 : Int32) (v8 : Int32) (v9 : Int32) (v10 : Int32) (v11 : Int32) (s0 : Int32) (s1 : Int32) (w : ra_W), fX6_odds k n 7 v1 v2 v3 v4 v5 v6 v7 v8 v9 v10 v11 s0 s1 w = some (r, w1) → ra_J Z 12 242 [(0, .ref ((zG Z).1 134)), (1, .int v1), (2, .int v2), (3, .int v3), (4, .int v4), (5, .int v5), (6, .int v6), (7, .int v7), (8, .int v8), (9, .int v9), (11, .int v11)] [] w
def pX6_odds_8 (Z : ra_Z) (r : Int32) (w1 : ra_W) (k : Nat) (n : Nat) : Prop := ∀ (v1 : Int32) (v2 : Int32) (v3 : Int32) (v4 : Int32) (v5 : Int32) (v6 : Int32) (v7 : Int32) (v8 : Int32) (v9 : Int32) (v10 : Int32) (v11 : Int32) (s0 : Int32) (s1 : Int32) (w : ra_W), fX6_odds k n 8 v1 v2 v3 v4 v5 v6 v7 v8 v9 v10 v11 s0 s1 w = some (r, w1) → ra_J Z 12 247 [(0, .ref ((zG Z).1 134)), (1, .int v1), (2, .int v2), (3, .int v3), (4, .int v4), (5, .int v5), (6, .int v6), (7, .int v7), (8, .int v8), (9, .int v9), (11, .int v11)] [.int s0] w
def pX6_odds_9 (Z : ra_Z) (r : Int32) (w1 : ra_W) (k : Nat) (n : Nat) : Prop := ∀ (v1 : Int32) (v2 : Int32) (v3 : Int32) (v4 : Int32) (v5 : Int32) (v6 : Int32) (v7 : Int32) (v8 : Int32) (v9 : Int32) (v10 : Int32) (v11 : Int32) (s0 : Int32) (s1 : Int32) (w : ra_W), fX6_odds k n 9 v1 v2 v3 v4 v5 v6 v7 v8 v9 v10 v11 s0 s1 w = some (r, w1) → ra_J Z 12 268 [(0, .ref ((zG Z).1 134)), (1, .int v1), (2, .int v2), (3, .int v3), (4, .int v4), (5, .int v5), (6, .int v6), (8, .int v8)] [.int s0, .int s1] w
def pX6_odds_10 (Z : ra_Z) (r : Int32) (w1 : ra_W) (k : Nat) (n : Nat) : Prop := ∀ (v1 : Int32) (v2 : Int32) (v3 : Int32) (v4 : Int32) (v5 : Int32) (v6 : Int32) (v7 : Int32) (v8 : Int32) (v9 : Int32) (v10 : Int32) (v11 : Int32) (s0 : Int32) (s1 : Int32) (w : ra_W), fX6_odds k n 10 v1 v2 v3 v4 v5 v6 v7 v8 v9 v10 v11 s0 s1 w = some (r, w1) → ra_J Z 12 271 [(0, .ref ((zG Z).1 134)), (1, .int v1), (2, .int v2), (3, .int v3), (4, .int v4), (5, .int v5), (6, .int v6), (7, .int v7), (8, .int v8)] [] w
set_option maxHeartbeats 4000000 in
theorem tX6_odds_0 {Z : ra_Z} {r : Int32} {w1 : ra_W} (C : ra_C Z cX6_odds 12 RX6 5 116) (hQ : ra_QI Z r w1) (hr : (zmt Z).sig.returnType = (some .int)) (k : Nat) (n : Nat) (ih1 : pX6_odds_1 Z r w1 k n) : pX6_odds_0 Z r w1 k (n + 1) := by
  intro v1 v2 v3 v4 v5 v6 v7 v8 v9 v10 v11 s0 s1 w hf
  rw [fX6_odds_0] at hf
  refine rg_aload_n (pc := 0) C 0 rfl rfl dX6_odds_0 ?_
  refine rg_iconst (pc := 1) (v := 0) C dX6_odds_1 (by decide) ?_
  refine rg_put (pc := 2) C 134 6 0 kd_134 (by decide) rfl inlX6 tyX6 tyX6_ok nmX6 (by decide) wd_596 rfl rfl rfl (Nat.le_of_ble_eq_true rfl) rfl dX6_odds_2 ?_
  refine rg_iload_n (pc := 5) C 1 rfl rfl dX6_odds_5 ?_
  refine rg_iconst (pc := 6) (v := 0) C dX6_odds_6 (by decide) ?_
  refine rg_bipush (pc := 7) (v := 10) C dX6_odds_7 (by decide) ?_
  obtain ⟨r1, w2, e3, hf⟩ := ra_bd hf
  refine rg_callSI (pc := 9) (As := [.int v1, .int 0, .int 10]) (st := []) C (kX6_in (zl Z) (zG Z) C.hj k _ _ _ _ _ _ e3) ysX6_in rfl wd_677 ⟨Nat.le_of_ble_eq_true rfl, Nat.le_of_ble_eq_true rfl⟩ rfl (Nat.le_of_ble_eq_true rfl) dX6_odds_9 ?_
  refine rg_if_eq (pc := 12) (tgt := 43) C dX6_odds_12 (by decide) (fun c4 => ?_) (fun c4 => ?_)
  · replace hf := ra_t hf c4
    refine rg_iconst (pc := 43) (v := (-1)) C dX6_odds_43 (by decide) ?_
    exact rg_iret (pc := 44) C hQ hr hf dX6_odds_44
  · replace hf := ra_f hf c4
    refine rg_aload_n (pc := 15) C 0 rfl rfl dX6_odds_15 ?_
    refine rg_iload_n (pc := 16) C 2 rfl rfl dX6_odds_16 ?_
    obtain ⟨r5, w6, e7, hf⟩ := ra_bd hf
    refine rg_callVI (pc := 17) (As := [.int v2]) (st := []) C (kX6_isRadio (zl Z) (zG Z) C.hj k _ _ _ _ e7) kd_134 (by decide) rfl ysX6_isRadio rfl wd_800 ⟨Nat.le_of_ble_eq_true rfl, Nat.le_of_ble_eq_true rfl⟩ rfl (Nat.le_of_ble_eq_true rfl) dX6_odds_17 ?_
    refine rg_if_eq (pc := 20) (tgt := 43) C dX6_odds_20 (by decide) (fun c8 => ?_) (fun c8 => ?_)
    · replace hf := ra_t hf c8
      refine rg_iconst (pc := 43) (v := (-1)) C dX6_odds_43 (by decide) ?_
      exact rg_iret (pc := 44) C hQ hr hf dX6_odds_44
    · replace hf := ra_f hf c8
      refine rg_iload_n (pc := 23) C 3 rfl rfl dX6_odds_23 ?_
      refine rg_iconst (pc := 24) (v := 1) C dX6_odds_24 (by decide) ?_
      refine rg_bipush (pc := 25) (v := 20) C dX6_odds_25 (by decide) ?_
      obtain ⟨r9, w10, e11, hf⟩ := ra_bd hf
      refine rg_callSI (pc := 27) (As := [.int v3, .int 1, .int 20]) (st := []) C (kX6_in (zl Z) (zG Z) C.hj k _ _ _ _ _ _ e11) ysX6_in rfl wd_677 ⟨Nat.le_of_ble_eq_true rfl, Nat.le_of_ble_eq_true rfl⟩ rfl (Nat.le_of_ble_eq_true rfl) dX6_odds_27 ?_
      refine rg_if_eq (pc := 30) (tgt := 43) C dX6_odds_30 (by decide) (fun c12 => ?_) (fun c12 => ?_)
      · replace hf := ra_t hf c12
        refine rg_iconst (pc := 43) (v := (-1)) C dX6_odds_43 (by decide) ?_
        exact rg_iret (pc := 44) C hQ hr hf dX6_odds_44
      · replace hf := ra_f hf c12
        refine rg_iload (pc := 33) C 4 rfl dX6_odds_33 ?_
        refine rg_iconst (pc := 35) (v := 0) C dX6_odds_35 (by decide) ?_
        refine rg_iconst (pc := 36) (v := 1) C dX6_odds_36 (by decide) ?_
        obtain ⟨r13, w14, e15, hf⟩ := ra_bd hf
        refine rg_callSI (pc := 37) (As := [.int v4, .int 0, .int 1]) (st := []) C (kX6_in (zl Z) (zG Z) C.hj k _ _ _ _ _ _ e15) ysX6_in rfl wd_677 ⟨Nat.le_of_ble_eq_true rfl, Nat.le_of_ble_eq_true rfl⟩ rfl (Nat.le_of_ble_eq_true rfl) dX6_odds_37 ?_
        refine rg_if_ne (pc := 40) (tgt := 45) C dX6_odds_40 (by decide) (fun c16 => ?_) (fun c16 => ?_)
        · replace hf := ra_f hf c16
          refine rg_iconst (pc := 45) (v := 0) C dX6_odds_45 (by decide) ?_
          refine rg_istore (pc := 46) (lv' := [(0, .ref ((zG Z).1 134)), (1, .int v1), (2, .int v2), (3, .int v3), (4, .int v4), (5, .int 0)]) C [1, 2, 3, 4, 5, 0] rfl (by decide) dX6_odds_46 ?_
          refine rg_iconst (pc := 48) (v := 1) C dX6_odds_48 (by decide) ?_
          refine rg_istore (pc := 49) (lv' := [(0, .ref ((zG Z).1 134)), (1, .int v1), (2, .int v2), (3, .int v3), (4, .int v4), (5, .int 0), (6, .int 1)]) C [1, 2, 3, 4, 5, 6, 0] rfl (by decide) dX6_odds_49 ?_
          refine rg_iconst (pc := 51) (v := 0) C dX6_odds_51 (by decide) ?_
          refine rg_istore (pc := 52) (lv' := [(0, .ref ((zG Z).1 134)), (1, .int v1), (2, .int v2), (3, .int v3), (4, .int v4), (5, .int 0), (6, .int 1), (7, .int 0)]) C [1, 2, 3, 4, 5, 6, 7, 0] rfl (by decide) dX6_odds_52 ?_
          exact ih1 _ _ _ _ _ _ _ _ _ _ _ _ _ _ hf
        · replace hf := ra_t hf c16
          refine rg_iconst (pc := 43) (v := (-1)) C dX6_odds_43 (by decide) ?_
          exact rg_iret (pc := 44) C hQ hr hf dX6_odds_44
set_option maxHeartbeats 4000000 in
theorem tX6_odds_1 {Z : ra_Z} {r : Int32} {w1 : ra_W} (C : ra_C Z cX6_odds 12 RX6 5 116) (hQ : ra_QI Z r w1) (hr : (zmt Z).sig.returnType = (some .int)) (k : Nat) (n : Nat) (ih2 : pX6_odds_2 Z r w1 k n) (ih3 : pX6_odds_3 Z r w1 k n) : pX6_odds_1 Z r w1 k (n + 1) := by
  intro v1 v2 v3 v4 v5 v6 v7 v8 v9 v10 v11 s0 s1 w hf
  rw [fX6_odds_1] at hf
  refine rg_iload (pc := 54) C 7 rfl dX6_odds_54 ?_
  refine rg_aload_n (pc := 56) C 0 rfl rfl dX6_odds_56 ?_
  refine rg_get (pc := 57) C 134 6 9 kd_134 (by decide) rfl inlX6 (by decide) wd_605 rfl dX6_odds_57 ?_
  refine rg_iconst (pc := 60) (v := 0) C dX6_odds_60 (by decide) ?_
  refine rg_iald (pc := 61) (j := 0) C 136 kd_136 (by decide) (by decide) dX6_odds_61 ?_
  refine rg_icmp_ge (pc := 62) (tgt := 106) C dX6_odds_62 (by decide) (fun c1 => ?_) (fun c1 => ?_)
  · replace hf := ra_t hf c1
    refine rg_iconst (pc := 106) (v := 0) C dX6_odds_106 (by decide) ?_
    refine rg_istore (pc := 107) (lv' := [(0, .ref ((zG Z).1 134)), (1, .int v1), (2, .int v2), (3, .int v3), (4, .int v4), (5, .int v5), (6, .int v6), (7, .int 0)]) C [1, 2, 3, 4, 5, 6, 7, 0] rfl (by decide) dX6_odds_107 ?_
    refine rg_iconst (pc := 109) (v := 0) C dX6_odds_109 (by decide) ?_
    refine rg_istore (pc := 110) (lv' := [(0, .ref ((zG Z).1 134)), (1, .int v1), (2, .int v2), (3, .int v3), (4, .int v4), (5, .int v5), (6, .int v6), (7, .int 0), (8, .int 0)]) C [1, 2, 3, 4, 5, 6, 7, 8, 0] rfl (by decide) dX6_odds_110 ?_
    exact ih3 _ _ _ _ _ _ _ _ _ _ _ _ _ _ hf
  · replace hf := ra_f hf c1
    refine rg_iload (pc := 65) C 7 rfl dX6_odds_65 ?_
    refine rg_iload_n (pc := 67) C 2 rfl rfl dX6_odds_67 ?_
    refine rg_icmp_eq (pc := 68) (tgt := 100) C dX6_odds_68 (by decide) (fun c2 => ?_) (fun c2 => ?_)
    · replace hf := ra_t hf c2
      exact ih2 _ _ _ _ _ _ _ _ _ _ _ _ _ _ hf
    · replace hf := ra_f hf c2
      refine rg_aload_n (pc := 71) C 0 rfl rfl dX6_odds_71 ?_
      refine rg_get (pc := 72) C 134 6 12 kd_134 (by decide) rfl inlX6 (by decide) wd_608 rfl dX6_odds_72 ?_
      refine rg_bipush (pc := 75) (v := 13) C dX6_odds_75 (by decide) ?_
      refine rg_iload (pc := 77) C 7 rfl dX6_odds_77 ?_
      refine rg_iadd (pc := 79) C dX6_odds_79 ?_
      obtain ⟨g3, hf⟩ := ra_gd hf
      refine rg_iald (pc := 80) (j := (ra_ix (13 + v7))) C 139 kd_139 rfl g3 dX6_odds_80 ?_
      refine rg_if_ne (pc := 81) (tgt := 100) C dX6_odds_81 (by decide) (fun c4 => ?_) (fun c4 => ?_)
      · replace hf := ra_f hf c4
        exact ih2 _ _ _ _ _ _ _ _ _ _ _ _ _ _ hf
      · replace hf := ra_t hf c4
        refine rg_iload (pc := 84) C 5 rfl dX6_odds_84 ?_
        refine rg_iconst (pc := 86) (v := 1) C dX6_odds_86 (by decide) ?_
        refine rg_iload (pc := 87) C 7 rfl dX6_odds_87 ?_
        refine rg_ishl (pc := 89) C dX6_odds_89 ?_
        refine rg_ior (pc := 90) C dX6_odds_90 ?_
        refine rg_istore (pc := 91) (lv' := [(0, .ref ((zG Z).1 134)), (1, .int v1), (2, .int v2), (3, .int v3), (4, .int v4), (5, .int (v5 ||| (1 <<< (v7 &&& 31)))), (6, .int v6), (7, .int v7)]) C [1, 2, 3, 4, 5, 0, 6, 7] rfl (by decide) dX6_odds_91 ?_
        refine rg_iload (pc := 93) C 6 rfl dX6_odds_93 ?_
        refine rg_bipush (pc := 95) (v := 10) C dX6_odds_95 (by decide) ?_
        refine rg_imul (pc := 97) C dX6_odds_97 ?_
        refine rg_istore (pc := 98) (lv' := [(0, .ref ((zG Z).1 134)), (1, .int v1), (2, .int v2), (3, .int v3), (4, .int v4), (5, .int (v5 ||| (1 <<< (v7 &&& 31)))), (6, .int (v6 * 10)), (7, .int v7)]) C [1, 2, 3, 4, 5, 6, 0, 7] rfl (by decide) dX6_odds_98 ?_
        exact ih2 _ _ _ _ _ _ _ _ _ _ _ _ _ _ hf
set_option maxHeartbeats 4000000 in
theorem tX6_odds_2 {Z : ra_Z} {r : Int32} {w1 : ra_W} (C : ra_C Z cX6_odds 12 RX6 5 116) (hQ : ra_QI Z r w1) (hr : (zmt Z).sig.returnType = (some .int)) (k : Nat) (n : Nat) (ih1 : pX6_odds_1 Z r w1 k n) : pX6_odds_2 Z r w1 k (n + 1) := by
  intro v1 v2 v3 v4 v5 v6 v7 v8 v9 v10 v11 s0 s1 w hf
  rw [fX6_odds_2] at hf
  refine rg_iinc (pc := 100) (v := (v7 + 1)) (lv' := [(0, .ref ((zG Z).1 134)), (1, .int v1), (2, .int v2), (3, .int v3), (4, .int v4), (5, .int v5), (6, .int v6), (7, .int (v7 + 1))]) C 7 rfl [1, 2, 3, 4, 5, 6, 7, 0] (ra_ii (by decide)) rfl (by decide) dX6_odds_100 ?_
  refine rg_goto (pc := 103) (tgt := 54) C dX6_odds_103 (by decide) ?_
  exact ih1 _ _ _ _ _ _ _ _ _ _ _ _ _ _ hf
set_option maxHeartbeats 4000000 in
theorem tX6_odds_3 {Z : ra_Z} {r : Int32} {w1 : ra_W} (C : ra_C Z cX6_odds 12 RX6 5 116) (hQ : ra_QI Z r w1) (hr : (zmt Z).sig.returnType = (some .int)) (k : Nat) (n : Nat) (ih4 : pX6_odds_4 Z r w1 k n) (ih10 : pX6_odds_10 Z r w1 k n) : pX6_odds_3 Z r w1 k (n + 1) := by
  intro v1 v2 v3 v4 v5 v6 v7 v8 v9 v10 v11 s0 s1 w hf
  rw [fX6_odds_3] at hf
  refine rg_iload (pc := 112) C 8 rfl dX6_odds_112 ?_
  refine rg_iconst (pc := 114) (v := 1) C dX6_odds_114 (by decide) ?_
  refine rg_aload_n (pc := 115) C 0 rfl rfl dX6_odds_115 ?_
  refine rg_get (pc := 116) C 134 6 9 kd_134 (by decide) rfl inlX6 (by decide) wd_605 rfl dX6_odds_116 ?_
  refine rg_iconst (pc := 119) (v := 0) C dX6_odds_119 (by decide) ?_
  refine rg_iald (pc := 120) (j := 0) C 136 kd_136 (by decide) (by decide) dX6_odds_120 ?_
  refine rg_ishl (pc := 121) C dX6_odds_121 ?_
  refine rg_icmp_ge (pc := 122) (tgt := 277) C dX6_odds_122 (by decide) (fun c1 => ?_) (fun c1 => ?_)
  · replace hf := ra_t hf c1
    refine rg_iload (pc := 277) C 7 rfl dX6_odds_277 ?_
    refine rg_iload (pc := 279) C 6 rfl dX6_odds_279 ?_
    obtain ⟨r2, w3, e4, hf⟩ := ra_bd hf
    refine rg_callSI (pc := 281) (As := [.int v7, .int v6]) (st := []) C (kX6_gcd (zl Z) (zG Z) C.hj k _ _ _ _ _ e4) ysX6_gcd rfl wd_864 ⟨Nat.le_of_ble_eq_true rfl, Nat.le_of_ble_eq_true rfl⟩ rfl (Nat.le_of_ble_eq_true rfl) dX6_odds_281 ?_
    refine rg_istore (pc := 284) (lv' := [(0, .ref ((zG Z).1 134)), (1, .int v1), (2, .int v2), (3, .int v3), (4, .int v4), (5, .int v5), (6, .int v6), (7, .int v7), (8, .int r2)]) C [1, 2, 3, 4, 5, 6, 7, 8, 0] rfl (by decide) dX6_odds_284 ?_
    refine rg_iload (pc := 286) C 4 rfl dX6_odds_286 ?_
    refine rg_if_ne (pc := 288) (tgt := 299) C dX6_odds_288 (by decide) (fun c5 => ?_) (fun c5 => ?_)
    · replace hf := ra_f hf c5
      refine rg_iload (pc := 299) C 6 rfl dX6_odds_299 ?_
      refine rg_iload (pc := 301) C 8 rfl dX6_odds_301 ?_
      obtain ⟨g6, hf⟩ := ra_gd hf
      refine rg_idiv (pc := 303) C g6 dX6_odds_303 ?_
      exact rg_iret (pc := 304) C hQ hr hf dX6_odds_304
    · replace hf := ra_t hf c5
      refine rg_iload (pc := 291) C 7 rfl dX6_odds_291 ?_
      refine rg_iload (pc := 293) C 8 rfl dX6_odds_293 ?_
      obtain ⟨g7, hf⟩ := ra_gd hf
      refine rg_idiv (pc := 295) C g7 dX6_odds_295 ?_
      refine rg_goto (pc := 296) (tgt := 304) C dX6_odds_296 (by decide) ?_
      exact rg_iret (pc := 304) C hQ hr hf dX6_odds_304
  · replace hf := ra_f hf c1
    refine rg_iload (pc := 125) C 8 rfl dX6_odds_125 ?_
    refine rg_iload (pc := 127) C 5 rfl dX6_odds_127 ?_
    refine rg_iconst (pc := 129) (v := (-1)) C dX6_odds_129 (by decide) ?_
    refine rg_ixor (pc := 130) C dX6_odds_130 ?_
    refine rg_iand (pc := 131) C dX6_odds_131 ?_
    refine rg_if_ne (pc := 132) (tgt := 271) C dX6_odds_132 (by decide) (fun c8 => ?_) (fun c8 => ?_)
    · replace hf := ra_f hf c8
      exact ih10 _ _ _ _ _ _ _ _ _ _ _ _ _ _ hf
    · replace hf := ra_t hf c8
      refine rg_iconst (pc := 135) (v := 1) C dX6_odds_135 (by decide) ?_
      refine rg_istore (pc := 136) (lv' := [(0, .ref ((zG Z).1 134)), (1, .int v1), (2, .int v2), (3, .int v3), (4, .int v4), (5, .int v5), (6, .int v6), (7, .int v7), (8, .int v8), (9, .int 1)]) C [1, 2, 3, 4, 5, 6, 7, 8, 9, 0] rfl (by decide) dX6_odds_136 ?_
      refine rg_iconst (pc := 138) (v := 0) C dX6_odds_138 (by decide) ?_
      refine rg_istore (pc := 139) (lv' := [(0, .ref ((zG Z).1 134)), (1, .int v1), (2, .int v2), (3, .int v3), (4, .int v4), (5, .int v5), (6, .int v6), (7, .int v7), (8, .int v8), (9, .int 1), (10, .int 0)]) C [1, 2, 3, 4, 5, 6, 7, 8, 9, 10, 0] rfl (by decide) dX6_odds_139 ?_
      exact ih4 _ _ _ _ _ _ _ _ _ _ _ _ _ _ hf
set_option maxHeartbeats 4000000 in
theorem tX6_odds_4 {Z : ra_Z} {r : Int32} {w1 : ra_W} (C : ra_C Z cX6_odds 12 RX6 5 116) (hQ : ra_QI Z r w1) (hr : (zmt Z).sig.returnType = (some .int)) (k : Nat) (n : Nat) (ih5 : pX6_odds_5 Z r w1 k n) (ih6 : pX6_odds_6 Z r w1 k n) : pX6_odds_4 Z r w1 k (n + 1) := by
  intro v1 v2 v3 v4 v5 v6 v7 v8 v9 v10 v11 s0 s1 w hf
  rw [fX6_odds_4] at hf
  refine rg_iload (pc := 141) C 10 rfl dX6_odds_141 ?_
  refine rg_aload_n (pc := 143) C 0 rfl rfl dX6_odds_143 ?_
  refine rg_get (pc := 144) C 134 6 9 kd_134 (by decide) rfl inlX6 (by decide) wd_605 rfl dX6_odds_144 ?_
  refine rg_iconst (pc := 147) (v := 0) C dX6_odds_147 (by decide) ?_
  refine rg_iald (pc := 148) (j := 0) C 136 kd_136 (by decide) (by decide) dX6_odds_148 ?_
  refine rg_icmp_ge (pc := 149) (tgt := 195) C dX6_odds_149 (by decide) (fun c1 => ?_) (fun c1 => ?_)
  · replace hf := ra_t hf c1
    refine rg_aload_n (pc := 195) C 0 rfl rfl dX6_odds_195 ?_
    refine rg_iload (pc := 196) C 8 rfl dX6_odds_196 ?_
    refine rg_iconst (pc := 198) (v := 1) C dX6_odds_198 (by decide) ?_
    refine rg_iload_n (pc := 199) C 2 rfl rfl dX6_odds_199 ?_
    refine rg_ishl (pc := 200) C dX6_odds_200 ?_
    refine rg_ior (pc := 201) C dX6_odds_201 ?_
    obtain ⟨r2, w3, e4, hf⟩ := ra_bd hf
    refine rg_callVV (pc := 202) (As := [.int (v8 ||| (1 <<< (v2 &&& 31)))]) (st := []) C (kX6_presses2 (zl Z) (zG Z) C.hj k _ _ _ _ e4) kd_134 (by decide) rfl ysX6_presses2 rfl wd_852 ⟨Nat.le_of_ble_eq_true rfl, Nat.le_of_ble_eq_true rfl⟩ rfl (Nat.le_of_ble_eq_true rfl) dX6_odds_202 ?_
    refine rg_iconst (pc := 205) (v := 0) C dX6_odds_205 (by decide) ?_
    refine rg_istore (pc := 206) (lv' := [(0, .ref ((zG Z).1 134)), (1, .int v1), (2, .int v2), (3, .int v3), (4, .int v4), (5, .int v5), (6, .int v6), (7, .int v7), (8, .int v8), (9, .int v9), (10, .int 0)]) C [1, 2, 3, 4, 5, 6, 7, 8, 9, 10, 0] rfl (by decide) dX6_odds_206 ?_
    refine rg_iconst (pc := 208) (v := 0) C dX6_odds_208 (by decide) ?_
    refine rg_istore (pc := 209) (lv' := [(0, .ref ((zG Z).1 134)), (1, .int v1), (2, .int v2), (3, .int v3), (4, .int v4), (5, .int v5), (6, .int v6), (7, .int v7), (8, .int v8), (9, .int v9), (10, .int 0), (11, .int 0)]) C [1, 2, 3, 4, 5, 6, 7, 8, 9, 10, 11, 0] rfl (by decide) dX6_odds_209 ?_
    exact ih6 _ _ _ _ _ _ _ _ _ _ _ _ _ _ hf
  · replace hf := ra_f hf c1
    refine rg_iload (pc := 152) C 9 rfl dX6_odds_152 ?_
    refine rg_iload (pc := 154) C 5 rfl dX6_odds_154 ?_
    refine rg_iload (pc := 156) C 10 rfl dX6_odds_156 ?_
    obtain ⟨r5, w6, e7, hf⟩ := ra_bd hf
    refine rg_callSI (pc := 158) (As := [.int v5, .int v10]) (st := [.int v9]) C (kX6_has (zl Z) (zG Z) C.hj k _ _ _ _ _ e7) ysX6_has rfl wd_777 ⟨Nat.le_of_ble_eq_true rfl, Nat.le_of_ble_eq_true rfl⟩ rfl (Nat.le_of_ble_eq_true rfl) dX6_odds_158 ?_
    refine rg_if_ne (pc := 161) (tgt := 168) C dX6_odds_161 (by decide) (fun c8 => ?_) (fun c8 => ?_)
    · replace hf := ra_f hf c8
      refine rg_iload (pc := 168) C 8 rfl dX6_odds_168 ?_
      refine rg_iload (pc := 170) C 10 rfl dX6_odds_170 ?_
      obtain ⟨r9, w10, e11, hf⟩ := ra_bd hf
      refine rg_callSI (pc := 172) (As := [.int v8, .int v10]) (st := [.int v9]) C (kX6_has (zl Z) (zG Z) C.hj k _ _ _ _ _ e11) ysX6_has rfl wd_777 ⟨Nat.le_of_ble_eq_true rfl, Nat.le_of_ble_eq_true rfl⟩ rfl (Nat.le_of_ble_eq_true rfl) dX6_odds_172 ?_
      refine rg_if_eq (pc := 175) (tgt := 182) C dX6_odds_175 (by decide) (fun c12 => ?_) (fun c12 => ?_)
      · replace hf := ra_t hf c12
        refine rg_bipush (pc := 182) (v := 10) C dX6_odds_182 (by decide) ?_
        refine rg_iload_n (pc := 184) C 1 rfl rfl dX6_odds_184 ?_
        refine rg_isub (pc := 185) C dX6_odds_185 ?_
        refine rg_sub [0, 1, 2, 3, 4, 5, 6, 7, 8, 10] rfl ?_
        exact ih5 _ _ _ _ _ _ _ _ _ _ _ _ _ _ hf
      · replace hf := ra_f hf c12
        refine rg_iload_n (pc := 178) C 1 rfl rfl dX6_odds_178 ?_
        refine rg_goto (pc := 179) (tgt := 186) C dX6_odds_179 (by decide) ?_
        refine rg_sub [0, 1, 2, 3, 4, 5, 6, 7, 8, 10] rfl ?_
        exact ih5 _ _ _ _ _ _ _ _ _ _ _ _ _ _ hf
    · replace hf := ra_t hf c8
      refine rg_iconst (pc := 164) (v := 1) C dX6_odds_164 (by decide) ?_
      refine rg_goto (pc := 165) (tgt := 186) C dX6_odds_165 (by decide) ?_
      refine rg_sub [0, 1, 2, 3, 4, 5, 6, 7, 8, 10] rfl ?_
      exact ih5 _ _ _ _ _ _ _ _ _ _ _ _ _ _ hf
set_option maxHeartbeats 4000000 in
theorem tX6_odds_5 {Z : ra_Z} {r : Int32} {w1 : ra_W} (C : ra_C Z cX6_odds 12 RX6 5 116) (hQ : ra_QI Z r w1) (hr : (zmt Z).sig.returnType = (some .int)) (k : Nat) (n : Nat) (ih4 : pX6_odds_4 Z r w1 k n) : pX6_odds_5 Z r w1 k (n + 1) := by
  intro v1 v2 v3 v4 v5 v6 v7 v8 v9 v10 v11 s0 s1 w hf
  rw [fX6_odds_5] at hf
  refine rg_imul (pc := 186) C dX6_odds_186 ?_
  refine rg_istore (pc := 187) (lv' := [(0, .ref ((zG Z).1 134)), (1, .int v1), (2, .int v2), (3, .int v3), (4, .int v4), (5, .int v5), (6, .int v6), (7, .int v7), (8, .int v8), (9, .int (s1 * s0)), (10, .int v10)]) C [1, 2, 3, 4, 5, 6, 7, 8, 9, 0, 10] rfl (by decide) dX6_odds_187 ?_
  refine rg_iinc (pc := 189) (v := (v10 + 1)) (lv' := [(0, .ref ((zG Z).1 134)), (1, .int v1), (2, .int v2), (3, .int v3), (4, .int v4), (5, .int v5), (6, .int v6), (7, .int v7), (8, .int v8), (9, .int (s1 * s0)), (10, .int (v10 + 1))]) C 10 rfl [1, 2, 3, 4, 5, 6, 7, 8, 9, 10, 0] (ra_ii (by decide)) rfl (by decide) dX6_odds_189 ?_
  refine rg_goto (pc := 192) (tgt := 141) C dX6_odds_192 (by decide) ?_
  exact ih4 _ _ _ _ _ _ _ _ _ _ _ _ _ _ hf
set_option maxHeartbeats 4000000 in
theorem tX6_odds_6 {Z : ra_Z} {r : Int32} {w1 : ra_W} (C : ra_C Z cX6_odds 12 RX6 5 116) (hQ : ra_QI Z r w1) (hr : (zmt Z).sig.returnType = (some .int)) (k : Nat) (n : Nat) (ih7 : pX6_odds_7 Z r w1 k n) (ih8 : pX6_odds_8 Z r w1 k n) (ih9 : pX6_odds_9 Z r w1 k n) : pX6_odds_6 Z r w1 k (n + 1) := by
  intro v1 v2 v3 v4 v5 v6 v7 v8 v9 v10 v11 s0 s1 w hf
  rw [fX6_odds_6] at hf
  refine rg_iload (pc := 211) C 11 rfl dX6_odds_211 ?_
  refine rg_iload_n (pc := 213) C 3 rfl rfl dX6_odds_213 ?_
  refine rg_icmp_ge (pc := 214) (tgt := 255) C dX6_odds_214 (by decide) (fun c1 => ?_) (fun c1 => ?_)
  · replace hf := ra_t hf c1
    refine rg_iload (pc := 255) C 7 rfl dX6_odds_255 ?_
    refine rg_iload (pc := 257) C 10 rfl dX6_odds_257 ?_
    refine rg_if_eq (pc := 259) (tgt := 267) C dX6_odds_259 (by decide) (fun c2 => ?_) (fun c2 => ?_)
    · replace hf := ra_t hf c2
      refine rg_iconst (pc := 267) (v := 0) C dX6_odds_267 (by decide) ?_
      refine rg_sub [0, 1, 2, 3, 4, 5, 6, 8] rfl ?_
      exact ih9 _ _ _ _ _ _ _ _ _ _ _ _ _ _ hf
    · replace hf := ra_f hf c2
      refine rg_iload (pc := 262) C 9 rfl dX6_odds_262 ?_
      refine rg_goto (pc := 264) (tgt := 268) C dX6_odds_264 (by decide) ?_
      refine rg_sub [0, 1, 2, 3, 4, 5, 6, 8] rfl ?_
      exact ih9 _ _ _ _ _ _ _ _ _ _ _ _ _ _ hf
  · replace hf := ra_f hf c1
    refine rg_aload_n (pc := 217) C 0 rfl rfl dX6_odds_217 ?_
    refine rg_aload_n (pc := 218) C 0 rfl rfl dX6_odds_218 ?_
    refine rg_get (pc := 219) C 134 6 13 kd_134 (by decide) rfl inlX6 (by decide) wd_609 rfl dX6_odds_219 ?_
    obtain ⟨r3, w4, e5, hf⟩ := ra_bd hf
    refine rg_callVV (pc := 222) (As := [.ref ((zG Z).1 140)]) (st := []) C (kX6_goes (zl Z) (zG Z) C.hj k 140 kd_140 _ _ _ e5) kd_134 (by decide) rfl ysX6_goes rfl wd_727 ⟨Nat.le_of_ble_eq_true rfl, Nat.le_of_ble_eq_true rfl⟩ rfl (Nat.le_of_ble_eq_true rfl) dX6_odds_222 ?_
    refine rg_iload (pc := 225) C 10 rfl dX6_odds_225 ?_
    refine rg_if_ne (pc := 227) (tgt := 242) C dX6_odds_227 (by decide) (fun c6 => ?_) (fun c6 => ?_)
    · replace hf := ra_f hf c6
      refine rg_sub [0, 1, 2, 3, 4, 5, 6, 7, 8, 9, 11] rfl ?_
      exact ih7 _ _ _ _ _ _ _ _ _ _ _ _ _ _ hf
    · replace hf := ra_t hf c6
      refine rg_aload_n (pc := 230) C 0 rfl rfl dX6_odds_230 ?_
      refine rg_aload_n (pc := 231) C 0 rfl rfl dX6_odds_231 ?_
      refine rg_get (pc := 232) C 134 6 13 kd_134 (by decide) rfl inlX6 (by decide) wd_609 rfl dX6_odds_232 ?_
      refine rg_iload_n (pc := 235) C 2 rfl rfl dX6_odds_235 ?_
      obtain ⟨r7, w8, e9, hf⟩ := ra_bd hf
      refine rg_callVI (pc := 236) (As := [.ref ((zG Z).1 140), .int v2]) (st := []) C (kX6_isOn (zl Z) (zG Z) C.hj k 140 kd_140 _ _ _ _ e9) kd_134 (by decide) rfl ysX6_isOn rfl wd_792 ⟨Nat.le_of_ble_eq_true rfl, Nat.le_of_ble_eq_true rfl⟩ rfl (Nat.le_of_ble_eq_true rfl) dX6_odds_236 ?_
      refine rg_if_eq (pc := 239) (tgt := 246) C dX6_odds_239 (by decide) (fun c10 => ?_) (fun c10 => ?_)
      · replace hf := ra_t hf c10
        refine rg_iconst (pc := 246) (v := 0) C dX6_odds_246 (by decide) ?_
        refine rg_sub [0, 1, 2, 3, 4, 5, 6, 7, 8, 9, 11] rfl ?_
        exact ih8 _ _ _ _ _ _ _ _ _ _ _ _ _ _ hf
      · replace hf := ra_f hf c10
        refine rg_sub [0, 1, 2, 3, 4, 5, 6, 7, 8, 9, 11] rfl ?_
        exact ih7 _ _ _ _ _ _ _ _ _ _ _ _ _ _ hf
set_option maxHeartbeats 4000000 in
theorem tX6_odds_7 {Z : ra_Z} {r : Int32} {w1 : ra_W} (C : ra_C Z cX6_odds 12 RX6 5 116) (hQ : ra_QI Z r w1) (hr : (zmt Z).sig.returnType = (some .int)) (k : Nat) (n : Nat) (ih8 : pX6_odds_8 Z r w1 k n) : pX6_odds_7 Z r w1 k (n + 1) := by
  intro v1 v2 v3 v4 v5 v6 v7 v8 v9 v10 v11 s0 s1 w hf
  rw [fX6_odds_7] at hf
  refine rg_iconst (pc := 242) (v := 1) C dX6_odds_242 (by decide) ?_
  refine rg_goto (pc := 243) (tgt := 247) C dX6_odds_243 (by decide) ?_
  exact ih8 _ _ _ _ _ _ _ _ _ _ _ _ _ _ hf
set_option maxHeartbeats 4000000 in
theorem tX6_odds_8 {Z : ra_Z} {r : Int32} {w1 : ra_W} (C : ra_C Z cX6_odds 12 RX6 5 116) (hQ : ra_QI Z r w1) (hr : (zmt Z).sig.returnType = (some .int)) (k : Nat) (n : Nat) (ih6 : pX6_odds_6 Z r w1 k n) : pX6_odds_8 Z r w1 k (n + 1) := by
  intro v1 v2 v3 v4 v5 v6 v7 v8 v9 v10 v11 s0 s1 w hf
  rw [fX6_odds_8] at hf
  refine rg_istore (pc := 247) (lv' := [(0, .ref ((zG Z).1 134)), (1, .int v1), (2, .int v2), (3, .int v3), (4, .int v4), (5, .int v5), (6, .int v6), (7, .int v7), (8, .int v8), (9, .int v9), (10, .int s0), (11, .int v11)]) C [1, 2, 3, 4, 5, 6, 7, 8, 9, 10, 0, 11] rfl (by decide) dX6_odds_247 ?_
  refine rg_iinc (pc := 249) (v := (v11 + 1)) (lv' := [(0, .ref ((zG Z).1 134)), (1, .int v1), (2, .int v2), (3, .int v3), (4, .int v4), (5, .int v5), (6, .int v6), (7, .int v7), (8, .int v8), (9, .int v9), (10, .int s0), (11, .int (v11 + 1))]) C 11 rfl [1, 2, 3, 4, 5, 6, 7, 8, 9, 10, 11, 0] (ra_ii (by decide)) rfl (by decide) dX6_odds_249 ?_
  refine rg_goto (pc := 252) (tgt := 211) C dX6_odds_252 (by decide) ?_
  exact ih6 _ _ _ _ _ _ _ _ _ _ _ _ _ _ hf
set_option maxHeartbeats 4000000 in
theorem tX6_odds_9 {Z : ra_Z} {r : Int32} {w1 : ra_W} (C : ra_C Z cX6_odds 12 RX6 5 116) (hQ : ra_QI Z r w1) (hr : (zmt Z).sig.returnType = (some .int)) (k : Nat) (n : Nat) (ih10 : pX6_odds_10 Z r w1 k n) : pX6_odds_9 Z r w1 k (n + 1) := by
  intro v1 v2 v3 v4 v5 v6 v7 v8 v9 v10 v11 s0 s1 w hf
  rw [fX6_odds_9] at hf
  refine rg_iadd (pc := 268) C dX6_odds_268 ?_
  refine rg_istore (pc := 269) (lv' := [(0, .ref ((zG Z).1 134)), (1, .int v1), (2, .int v2), (3, .int v3), (4, .int v4), (5, .int v5), (6, .int v6), (7, .int (s1 + s0)), (8, .int v8)]) C [1, 2, 3, 4, 5, 6, 7, 0, 8] rfl (by decide) dX6_odds_269 ?_
  exact ih10 _ _ _ _ _ _ _ _ _ _ _ _ _ _ hf
set_option maxHeartbeats 4000000 in
theorem tX6_odds_10 {Z : ra_Z} {r : Int32} {w1 : ra_W} (C : ra_C Z cX6_odds 12 RX6 5 116) (hQ : ra_QI Z r w1) (hr : (zmt Z).sig.returnType = (some .int)) (k : Nat) (n : Nat) (ih3 : pX6_odds_3 Z r w1 k n) : pX6_odds_10 Z r w1 k (n + 1) := by
  intro v1 v2 v3 v4 v5 v6 v7 v8 v9 v10 v11 s0 s1 w hf
  rw [fX6_odds_10] at hf
  refine rg_iinc (pc := 271) (v := (v8 + 1)) (lv' := [(0, .ref ((zG Z).1 134)), (1, .int v1), (2, .int v2), (3, .int v3), (4, .int v4), (5, .int v5), (6, .int v6), (7, .int v7), (8, .int (v8 + 1))]) C 8 rfl [1, 2, 3, 4, 5, 6, 7, 8, 0] (ra_ii (by decide)) rfl (by decide) dX6_odds_271 ?_
  refine rg_goto (pc := 274) (tgt := 112) C dX6_odds_274 (by decide) ?_
  exact ih3 _ _ _ _ _ _ _ _ _ _ _ _ _ _ hf
theorem tX6_odds {Z : ra_Z} {r : Int32} {w1 : ra_W} (C : ra_C Z cX6_odds 12 RX6 5 116) (hQ : ra_QI Z r w1) (hr : (zmt Z).sig.returnType = (some .int)) (k : Nat) : ∀ n : Nat, pX6_odds_0 Z r w1 k n ∧ pX6_odds_1 Z r w1 k n ∧ pX6_odds_2 Z r w1 k n ∧ pX6_odds_3 Z r w1 k n ∧ pX6_odds_4 Z r w1 k n ∧ pX6_odds_5 Z r w1 k n ∧ pX6_odds_6 Z r w1 k n ∧ pX6_odds_7 Z r w1 k n ∧ pX6_odds_8 Z r w1 k n ∧ pX6_odds_9 Z r w1 k n ∧ pX6_odds_10 Z r w1 k n := by
  intro n
  induction n with
  | zero => exact ⟨(fun _ _ _ _ _ _ _ _ _ _ _ _ _ _ h => by cases h), (fun _ _ _ _ _ _ _ _ _ _ _ _ _ _ h => by cases h), (fun _ _ _ _ _ _ _ _ _ _ _ _ _ _ h => by cases h), (fun _ _ _ _ _ _ _ _ _ _ _ _ _ _ h => by cases h), (fun _ _ _ _ _ _ _ _ _ _ _ _ _ _ h => by cases h), (fun _ _ _ _ _ _ _ _ _ _ _ _ _ _ h => by cases h), (fun _ _ _ _ _ _ _ _ _ _ _ _ _ _ h => by cases h), (fun _ _ _ _ _ _ _ _ _ _ _ _ _ _ h => by cases h), (fun _ _ _ _ _ _ _ _ _ _ _ _ _ _ h => by cases h), (fun _ _ _ _ _ _ _ _ _ _ _ _ _ _ h => by cases h), (fun _ _ _ _ _ _ _ _ _ _ _ _ _ _ h => by cases h)⟩
  | succ n ih =>
    obtain ⟨ih0, ih1, ih2, ih3, ih4, ih5, ih6, ih7, ih8, ih9, ih10⟩ := ih
    exact ⟨tX6_odds_0 C hQ hr k n ih1, tX6_odds_1 C hQ hr k n ih2 ih3, tX6_odds_2 C hQ hr k n ih1, tX6_odds_3 C hQ hr k n ih4 ih10, tX6_odds_4 C hQ hr k n ih5 ih6, tX6_odds_5 C hQ hr k n ih4, tX6_odds_6 C hQ hr k n ih7 ih8 ih9, tX6_odds_7 C hQ hr k n ih8, tX6_odds_8 C hQ hr k n ih6, tX6_odds_9 C hQ hr k n ih10, tX6_odds_10 C hQ hr k n ih3⟩
theorem kX6_odds (l : Launch) (G : ra_G) (hj : ra_inj G) (k : Nat) (v1 : Int32) (v2 : Int32) (v3 : Int32) (v4 : Int32) (w : ra_W) (r : Int32) (w1 : ra_W) (h : FX6_odds k v1 v2 v3 v4 w = some (r, w1)) : ra_MI l G yX6_odds cX6_odds 12 (some .int) 5 116 [.ref (G.1 134), .int v1, .int v2, .int v3, .int v4] w r w1 :=
  ra_entryI (own := RX6) (by decide) rfl (Nat.le_of_ble_eq_true rfl) hj (fun Z hl hG C hQ hr => by subst hl; subst hG; exact (tX6_odds C hQ hr k k).1 _ _ _ _ _ _ _ _ _ _ _ _ _ _ h)
theorem ysX6_odds : ra_YV yX6_odds cX6_odds 12 (some .int) 4 RX6 := ⟨⟨wd_7, wd_863, by decide, by decide, by decide⟩, wd_861, wd_862⟩
/-- TrunkRadioModel.sees -/
def fX6_sees (k : Nat) : Nat → Nat → Int32 → Int32 → ra_W → Option (Int32 × ra_W)
  | 0, _, _, _, _ => none
  | n + 1, L, v1, v2, w => match L with
    | _ => ra_bind (FX6_in k v1 1 20 (ra_st w 134 0 0)) (fun r1 w2 => if r1 = 0 then (some ((-1), w2)) else (ra_bind (FX6_in k v2 0 1 w2) (fun r5 w6 => if r5 = 0 then (some ((-1), w6)) else (if (w6 134 20) = 6 then (some ((-3), w6)) else (if ra_in (w6 134 20) 6 then if ra_in ((ra_st w6 144 (ra_ix (w6 134 20)) v1) 134 20) 6 then some (((ra_st (ra_st (ra_st w6 144 (ra_ix (w6 134 20)) v1) 145 (ra_ix ((ra_st w6 144 (ra_ix (w6 134 20)) v1) 134 20)) v2) 134 20 (((ra_st (ra_st w6 144 (ra_ix (w6 134 20)) v1) 145 (ra_ix ((ra_st w6 144 (ra_ix (w6 134 20)) v1) 134 20)) v2) 134 20) + 1)) 134 20), (ra_st (ra_st (ra_st w6 144 (ra_ix (w6 134 20)) v1) 145 (ra_ix ((ra_st w6 144 (ra_ix (w6 134 20)) v1) 134 20)) v2) 134 20 (((ra_st (ra_st w6 144 (ra_ix (w6 134 20)) v1) 145 (ra_ix ((ra_st w6 144 (ra_ix (w6 134 20)) v1) 134 20)) v2) 134 20) + 1))) else none else none)))))
theorem fX6_sees_0 (k : Nat) (n : Nat) (v1 : Int32) (v2 : Int32) (w : ra_W) : fX6_sees k (n + 1) 0 v1 v2 w = (ra_bind (FX6_in k v1 1 20 (ra_st w 134 0 0)) (fun r1 w2 => if r1 = 0 then (some ((-1), w2)) else (ra_bind (FX6_in k v2 0 1 w2) (fun r5 w6 => if r5 = 0 then (some ((-1), w6)) else (if (w6 134 20) = 6 then (some ((-3), w6)) else (if ra_in (w6 134 20) 6 then if ra_in ((ra_st w6 144 (ra_ix (w6 134 20)) v1) 134 20) 6 then some (((ra_st (ra_st (ra_st w6 144 (ra_ix (w6 134 20)) v1) 145 (ra_ix ((ra_st w6 144 (ra_ix (w6 134 20)) v1) 134 20)) v2) 134 20 (((ra_st (ra_st w6 144 (ra_ix (w6 134 20)) v1) 145 (ra_ix ((ra_st w6 144 (ra_ix (w6 134 20)) v1) 134 20)) v2) 134 20) + 1)) 134 20), (ra_st (ra_st (ra_st w6 144 (ra_ix (w6 134 20)) v1) 145 (ra_ix ((ra_st w6 144 (ra_ix (w6 134 20)) v1) 134 20)) v2) 134 20 (((ra_st (ra_st w6 144 (ra_ix (w6 134 20)) v1) 145 (ra_ix ((ra_st w6 144 (ra_ix (w6 134 20)) v1) 134 20)) v2) 134 20) + 1))) else none else none)))))) := rfl
def FX6_sees (k : Nat) (v1 : Int32) (v2 : Int32) (w : ra_W) : Option (Int32 × ra_W) := fX6_sees k k 0 v1 v2 w
def pX6_sees_0 (Z : ra_Z) (r : Int32) (w1 : ra_W) (k : Nat) (n : Nat) : Prop := ∀ (v1 : Int32) (v2 : Int32) (w : ra_W), fX6_sees k n 0 v1 v2 w = some (r, w1) → ra_J Z 3 0 [(0, .ref ((zG Z).1 134)), (1, .int v1), (2, .int v2)] [] w
set_option maxHeartbeats 4000000 in
theorem tX6_sees_0 {Z : ra_Z} {r : Int32} {w1 : ra_W} (C : ra_C Z cX6_sees 3 RX6 1 22) (hQ : ra_QI Z r w1) (hr : (zmt Z).sig.returnType = (some .int)) (k : Nat) (n : Nat) : pX6_sees_0 Z r w1 k (n + 1) := by
  intro v1 v2 w hf
  rw [fX6_sees_0] at hf
  refine rg_aload_n (pc := 0) C 0 rfl rfl dX6_sees_0 ?_
  refine rg_iconst (pc := 1) (v := 0) C dX6_sees_1 (by decide) ?_
  refine rg_put (pc := 2) C 134 6 0 kd_134 (by decide) rfl inlX6 tyX6 tyX6_ok nmX6 (by decide) wd_596 rfl rfl rfl (Nat.le_of_ble_eq_true rfl) rfl dX6_sees_2 ?_
  refine rg_iload_n (pc := 5) C 1 rfl rfl dX6_sees_5 ?_
  refine rg_iconst (pc := 6) (v := 1) C dX6_sees_6 (by decide) ?_
  refine rg_bipush (pc := 7) (v := 20) C dX6_sees_7 (by decide) ?_
  obtain ⟨r1, w2, e3, hf⟩ := ra_bd hf
  refine rg_callSI (pc := 9) (As := [.int v1, .int 1, .int 20]) (st := []) C (kX6_in (zl Z) (zG Z) C.hj k _ _ _ _ _ _ e3) ysX6_in rfl wd_677 ⟨Nat.le_of_ble_eq_true rfl, Nat.le_of_ble_eq_true rfl⟩ rfl (Nat.le_of_ble_eq_true rfl) dX6_sees_9 ?_
  refine rg_if_eq (pc := 12) (tgt := 24) C dX6_sees_12 (by decide) (fun c4 => ?_) (fun c4 => ?_)
  · replace hf := ra_t hf c4
    refine rg_iconst (pc := 24) (v := (-1)) C dX6_sees_24 (by decide) ?_
    exact rg_iret (pc := 25) C hQ hr hf dX6_sees_25
  · replace hf := ra_f hf c4
    refine rg_iload_n (pc := 15) C 2 rfl rfl dX6_sees_15 ?_
    refine rg_iconst (pc := 16) (v := 0) C dX6_sees_16 (by decide) ?_
    refine rg_iconst (pc := 17) (v := 1) C dX6_sees_17 (by decide) ?_
    obtain ⟨r5, w6, e7, hf⟩ := ra_bd hf
    refine rg_callSI (pc := 18) (As := [.int v2, .int 0, .int 1]) (st := []) C (kX6_in (zl Z) (zG Z) C.hj k _ _ _ _ _ _ e7) ysX6_in rfl wd_677 ⟨Nat.le_of_ble_eq_true rfl, Nat.le_of_ble_eq_true rfl⟩ rfl (Nat.le_of_ble_eq_true rfl) dX6_sees_18 ?_
    refine rg_if_ne (pc := 21) (tgt := 26) C dX6_sees_21 (by decide) (fun c8 => ?_) (fun c8 => ?_)
    · replace hf := ra_f hf c8
      refine rg_aload_n (pc := 26) C 0 rfl rfl dX6_sees_26 ?_
      refine rg_get (pc := 27) C 134 6 20 kd_134 (by decide) rfl inlX6 (by decide) wd_616 rfl dX6_sees_27 ?_
      refine rg_bipush (pc := 30) (v := 6) C dX6_sees_30 (by decide) ?_
      refine rg_icmp_ne (pc := 32) (tgt := 38) C dX6_sees_32 (by decide) (fun c9 => ?_) (fun c9 => ?_)
      · replace hf := ra_f hf c9
        refine rg_aload_n (pc := 38) C 0 rfl rfl dX6_sees_38 ?_
        refine rg_get (pc := 39) C 134 6 18 kd_134 (by decide) rfl inlX6 (by decide) wd_614 rfl dX6_sees_39 ?_
        refine rg_aload_n (pc := 42) C 0 rfl rfl dX6_sees_42 ?_
        refine rg_get (pc := 43) C 134 6 20 kd_134 (by decide) rfl inlX6 (by decide) wd_616 rfl dX6_sees_43 ?_
        refine rg_iload_n (pc := 46) C 1 rfl rfl dX6_sees_46 ?_
        obtain ⟨g10, hf⟩ := ra_gd hf
        refine rg_iast (pc := 47) (j := (ra_ix (w6 134 20))) C 144 kd_144 rfl g10 dX6_sees_47 ?_
        refine rg_aload_n (pc := 48) C 0 rfl rfl dX6_sees_48 ?_
        refine rg_get (pc := 49) C 134 6 19 kd_134 (by decide) rfl inlX6 (by decide) wd_615 rfl dX6_sees_49 ?_
        refine rg_aload_n (pc := 52) C 0 rfl rfl dX6_sees_52 ?_
        refine rg_get (pc := 53) C 134 6 20 kd_134 (by decide) rfl inlX6 (by decide) wd_616 rfl dX6_sees_53 ?_
        refine rg_iload_n (pc := 56) C 2 rfl rfl dX6_sees_56 ?_
        obtain ⟨g11, hf⟩ := ra_gd hf
        refine rg_iast (pc := 57) (j := (ra_ix ((ra_st w6 144 (ra_ix (w6 134 20)) v1) 134 20))) C 145 kd_145 rfl g11 dX6_sees_57 ?_
        refine rg_aload_n (pc := 58) C 0 rfl rfl dX6_sees_58 ?_
        refine rg_dup (pc := 59) C rfl dX6_sees_59 ?_
        refine rg_get (pc := 60) C 134 6 20 kd_134 (by decide) rfl inlX6 (by decide) wd_616 rfl dX6_sees_60 ?_
        refine rg_iconst (pc := 63) (v := 1) C dX6_sees_63 (by decide) ?_
        refine rg_iadd (pc := 64) C dX6_sees_64 ?_
        refine rg_put (pc := 65) C 134 6 20 kd_134 (by decide) rfl inlX6 tyX6 tyX6_ok nmX6 (by decide) wd_616 rfl rfl rfl (Nat.le_of_ble_eq_true rfl) rfl dX6_sees_65 ?_
        refine rg_aload_n (pc := 68) C 0 rfl rfl dX6_sees_68 ?_
        refine rg_get (pc := 69) C 134 6 20 kd_134 (by decide) rfl inlX6 (by decide) wd_616 rfl dX6_sees_69 ?_
        exact rg_iret (pc := 72) C hQ hr hf dX6_sees_72
      · replace hf := ra_t hf c9
        refine rg_bipush (pc := 35) (v := (-3)) C dX6_sees_35 (by decide) ?_
        exact rg_iret (pc := 37) C hQ hr hf dX6_sees_37
    · replace hf := ra_t hf c8
      refine rg_iconst (pc := 24) (v := (-1)) C dX6_sees_24 (by decide) ?_
      exact rg_iret (pc := 25) C hQ hr hf dX6_sees_25
theorem tX6_sees {Z : ra_Z} {r : Int32} {w1 : ra_W} (C : ra_C Z cX6_sees 3 RX6 1 22) (hQ : ra_QI Z r w1) (hr : (zmt Z).sig.returnType = (some .int)) (k : Nat) : ∀ n : Nat, pX6_sees_0 Z r w1 k n := by
  intro n
  induction n with
  | zero => exact (fun _ _ _ h => by cases h)
  | succ n ih => exact tX6_sees_0 C hQ hr k n
theorem kX6_sees (l : Launch) (G : ra_G) (hj : ra_inj G) (k : Nat) (v1 : Int32) (v2 : Int32) (w : ra_W) (r : Int32) (w1 : ra_W) (h : FX6_sees k v1 v2 w = some (r, w1)) : ra_MI l G yX6_sees cX6_sees 3 (some .int) 1 22 [.ref (G.1 134), .int v1, .int v2] w r w1 :=
  ra_entryI (own := RX6) (by decide) rfl (Nat.le_of_ble_eq_true rfl) hj (fun Z hl hG C hQ hr => by subst hl; subst hG; exact (tX6_sees C hQ hr k k) _ _ _ h)
theorem ysX6_sees : ra_YV yX6_sees cX6_sees 3 (some .int) 2 RX6 := ⟨⟨wd_7, wd_870, by decide, by decide, by decide⟩, wd_868, wd_869⟩
/-- TrunkRadioModel.forget -/
def fX6_forget (k : Nat) : Nat → Nat → ra_W → Option (Int32 × ra_W)
  | 0, _, _ => none
  | n + 1, L, w => match L with
    | _ => some (((ra_st w 134 0 0) 134 20), (ra_st (ra_st w 134 0 0) 134 20 0))
theorem fX6_forget_0 (k : Nat) (n : Nat)  (w : ra_W) : fX6_forget k (n + 1) 0  w = (some (((ra_st w 134 0 0) 134 20), (ra_st (ra_st w 134 0 0) 134 20 0))) := rfl
def FX6_forget (k : Nat)  (w : ra_W) : Option (Int32 × ra_W) := fX6_forget k k 0  w
def pX6_forget_0 (Z : ra_Z) (r : Int32) (w1 : ra_W) (k : Nat) (n : Nat) : Prop := ∀  (w : ra_W), fX6_forget k n 0  w = some (r, w1) → ra_J Z 2 0 [(0, .ref ((zG Z).1 134))] [] w
set_option maxHeartbeats 4000000 in
theorem tX6_forget_0 {Z : ra_Z} {r : Int32} {w1 : ra_W} (C : ra_C Z cX6_forget 2 RX6 0 0) (hQ : ra_QI Z r w1) (hr : (zmt Z).sig.returnType = (some .int)) (k : Nat) (n : Nat) : pX6_forget_0 Z r w1 k (n + 1) := by
  intro w hf
  rw [fX6_forget_0] at hf
  refine rg_aload_n (pc := 0) C 0 rfl rfl dX6_forget_0 ?_
  refine rg_iconst (pc := 1) (v := 0) C dX6_forget_1 (by decide) ?_
  refine rg_put (pc := 2) C 134 6 0 kd_134 (by decide) rfl inlX6 tyX6 tyX6_ok nmX6 (by decide) wd_596 rfl rfl rfl (Nat.le_of_ble_eq_true rfl) rfl dX6_forget_2 ?_
  refine rg_aload_n (pc := 5) C 0 rfl rfl dX6_forget_5 ?_
  refine rg_get (pc := 6) C 134 6 20 kd_134 (by decide) rfl inlX6 (by decide) wd_616 rfl dX6_forget_6 ?_
  refine rg_istore_n (pc := 9) (lv' := [(0, .ref ((zG Z).1 134)), (1, .int ((ra_st w 134 0 0) 134 20))]) C [1, 0] rfl rfl (by decide) dX6_forget_9 ?_
  refine rg_aload_n (pc := 10) C 0 rfl rfl dX6_forget_10 ?_
  refine rg_iconst (pc := 11) (v := 0) C dX6_forget_11 (by decide) ?_
  refine rg_put (pc := 12) C 134 6 20 kd_134 (by decide) rfl inlX6 tyX6 tyX6_ok nmX6 (by decide) wd_616 rfl rfl rfl (Nat.le_of_ble_eq_true rfl) rfl dX6_forget_12 ?_
  refine rg_iload_n (pc := 15) C 1 rfl rfl dX6_forget_15 ?_
  exact rg_iret (pc := 16) C hQ hr hf dX6_forget_16
theorem tX6_forget {Z : ra_Z} {r : Int32} {w1 : ra_W} (C : ra_C Z cX6_forget 2 RX6 0 0) (hQ : ra_QI Z r w1) (hr : (zmt Z).sig.returnType = (some .int)) (k : Nat) : ∀ n : Nat, pX6_forget_0 Z r w1 k n := by
  intro n
  induction n with
  | zero => exact (fun _ h => by cases h)
  | succ n ih => exact tX6_forget_0 C hQ hr k n
theorem kX6_forget (l : Launch) (G : ra_G) (hj : ra_inj G) (k : Nat)  (w : ra_W) (r : Int32) (w1 : ra_W) (h : FX6_forget k  w = some (r, w1)) : ra_MI l G yX6_forget cX6_forget 2 (some .int) 0 0 [.ref (G.1 134)] w r w1 :=
  ra_entryI (own := RX6) (by decide) rfl (Nat.le_of_ble_eq_true rfl) hj (fun Z hl hG C hQ hr => by subst hl; subst hG; exact (tX6_forget C hQ hr k k) _ h)
theorem ysX6_forget : ra_YV yX6_forget cX6_forget 2 (some .int) 0 RX6 := ⟨⟨wd_7, wd_874, by decide, by decide, by decide⟩, wd_872, wd_873⟩
/-- TrunkRadioModel.onBy -/
def fX6_onBy (k : Nat) : Nat → Nat → Int32 → Int32 → Int32 → Int32 → Int32 → Int32 → Int32 → ra_W → Option (Int32 × ra_W)
  | 0, _, _, _, _, _, _, _, _, _ => none
  | n + 1, L, v1, v2, v3, v4, v5, s0, s1, w => match L with
    | 0 => if ra_in (12 + v1) 19 then ra_bind (FX6_copies k 139 140 (ra_st w 136 (ra_ix (12 + v1)) v2)) (fun _ w3 => fX6_onBy k n 1 v1 0 (w 136 (ra_ix (12 + v1))) 0 1 0 0 w3) else none
    | 1 => if 20 < v5 then (if ra_in (12 + v1) 19 then some (v4, (ra_st w 136 (ra_ix (12 + v1)) v3)) else none) else (ra_bind (FX6_goes k 140 w) (fun _ w4 => ra_bind (FX6_isOn k 140 v1 w4) (fun r6 w7 => if r6 = 0 then (fX6_onBy k n 2 v1 0 v3 0 v5 0 v4 w7) else (fX6_onBy k n 2 v1 0 v3 0 v5 (1 <<< (v5 &&& 31)) v4 w7))))
    | _ => fX6_onBy k n 1 v1 0 v3 (s1 ||| s0) (v5 + 1) 0 0 w
theorem fX6_onBy_0 (k : Nat) (n : Nat) (v1 : Int32) (v2 : Int32) (v3 : Int32) (v4 : Int32) (v5 : Int32) (s0 : Int32) (s1 : Int32) (w : ra_W) : fX6_onBy k (n + 1) 0 v1 v2 v3 v4 v5 s0 s1 w = (if ra_in (12 + v1) 19 then ra_bind (FX6_copies k 139 140 (ra_st w 136 (ra_ix (12 + v1)) v2)) (fun _ w3 => fX6_onBy k n 1 v1 0 (w 136 (ra_ix (12 + v1))) 0 1 0 0 w3) else none) := rfl
theorem fX6_onBy_1 (k : Nat) (n : Nat) (v1 : Int32) (v2 : Int32) (v3 : Int32) (v4 : Int32) (v5 : Int32) (s0 : Int32) (s1 : Int32) (w : ra_W) : fX6_onBy k (n + 1) 1 v1 v2 v3 v4 v5 s0 s1 w = (if 20 < v5 then (if ra_in (12 + v1) 19 then some (v4, (ra_st w 136 (ra_ix (12 + v1)) v3)) else none) else (ra_bind (FX6_goes k 140 w) (fun _ w4 => ra_bind (FX6_isOn k 140 v1 w4) (fun r6 w7 => if r6 = 0 then (fX6_onBy k n 2 v1 0 v3 0 v5 0 v4 w7) else (fX6_onBy k n 2 v1 0 v3 0 v5 (1 <<< (v5 &&& 31)) v4 w7))))) := rfl
theorem fX6_onBy_2 (k : Nat) (n : Nat) (v1 : Int32) (v2 : Int32) (v3 : Int32) (v4 : Int32) (v5 : Int32) (s0 : Int32) (s1 : Int32) (w : ra_W) : fX6_onBy k (n + 1) 2 v1 v2 v3 v4 v5 s0 s1 w = (fX6_onBy k n 1 v1 0 v3 (s1 ||| s0) (v5 + 1) 0 0 w) := rfl
def FX6_onBy (k : Nat) (v1 : Int32) (v2 : Int32) (w : ra_W) : Option (Int32 × ra_W) := fX6_onBy k k 0 v1 v2 0 0 0 0 0 w
def pX6_onBy_0 (Z : ra_Z) (r : Int32) (w1 : ra_W) (k : Nat) (n : Nat) : Prop := ∀ (v1 : Int32) (v2 : Int32) (v3 : Int32) (v4 : Int32) (v5 : Int32) (s0 : Int32) (s1 : Int32) (w : ra_W), fX6_onBy k n 0 v1 v2 v3 v4 v5 s0 s1 w = some (r, w1) → ra_J Z 6 0 [(0, .ref ((zG Z).1 134)), (1, .int v1), (2, .int v2)] [] w
def pX6_onBy_1 (Z : ra_Z) (r : Int32) (w1 : ra_W) (k : Nat) (n : Nat) : Prop := ∀ (v1 : Int32) (v2 : Int32) (v3 : Int32) (v4 : Int32) (v5 : Int32) (s0 : Int32) (s1 : Int32) (w : ra_W), fX6_onBy k n 1 v1 v2 v3 v4 v5 s0 s1 w = some (r, w1) → ra_J Z 6 37 [(0, .ref ((zG Z).1 134)), (1, .int v1), (3, .int v3), (4, .int v4), (5, .int v5)] [] w
def pX6_onBy_2 (Z : ra_Z) (r : Int32) (w1 : ra_W) (k : Nat) (n : Nat) : Prop := ∀ (v1 : Int32) (v2 : Int32) (v3 : Int32) (v4 : Int32) (v5 : Int32) (s0 : Int32) (s1 : Int32) (w : ra_W), fX6_onBy k n 2 v1 v2 v3 v4 v5 s0 s1 w = some (r, w1) → ra_J Z 6 74 [(0, .ref ((zG Z).1 134)), (1, .int v1), (3, .int v3), (5, .int v5)] [.int s0, .int s1] w
set_option maxHeartbeats 4000000 in
theorem tX6_onBy_0 {Z : ra_Z} {r : Int32} {w1 : ra_W} (C : ra_C Z cX6_onBy 6 RX6 5 116) (hQ : ra_QI Z r w1) (hr : (zmt Z).sig.returnType = (some .int)) (k : Nat) (n : Nat) (ih1 : pX6_onBy_1 Z r w1 k n) : pX6_onBy_0 Z r w1 k (n + 1) := by
  intro v1 v2 v3 v4 v5 s0 s1 w hf
  rw [fX6_onBy_0] at hf
  refine rg_aload_n (pc := 0) C 0 rfl rfl dX6_onBy_0 ?_
  refine rg_get (pc := 1) C 134 6 9 kd_134 (by decide) rfl inlX6 (by decide) wd_605 rfl dX6_onBy_1 ?_
  refine rg_bipush (pc := 4) (v := 12) C dX6_onBy_4 (by decide) ?_
  refine rg_iload_n (pc := 6) C 1 rfl rfl dX6_onBy_6 ?_
  refine rg_iadd (pc := 7) C dX6_onBy_7 ?_
  obtain ⟨g1, hf⟩ := ra_gd hf
  refine rg_iald (pc := 8) (j := (ra_ix (12 + v1))) C 136 kd_136 rfl g1 dX6_onBy_8 ?_
  refine rg_istore_n (pc := 9) (lv' := [(0, .ref ((zG Z).1 134)), (1, .int v1), (2, .int v2), (3, .int (w 136 (ra_ix (12 + v1))))]) C [1, 2, 3, 0] rfl rfl (by decide) dX6_onBy_9 ?_
  refine rg_aload_n (pc := 10) C 0 rfl rfl dX6_onBy_10 ?_
  refine rg_get (pc := 11) C 134 6 9 kd_134 (by decide) rfl inlX6 (by decide) wd_605 rfl dX6_onBy_11 ?_
  refine rg_bipush (pc := 14) (v := 12) C dX6_onBy_14 (by decide) ?_
  refine rg_iload_n (pc := 16) C 1 rfl rfl dX6_onBy_16 ?_
  refine rg_iadd (pc := 17) C dX6_onBy_17 ?_
  refine rg_iload_n (pc := 18) C 2 rfl rfl dX6_onBy_18 ?_
  refine rg_iast (pc := 19) (j := (ra_ix (12 + v1))) C 136 kd_136 rfl g1 dX6_onBy_19 ?_
  refine rg_aload_n (pc := 20) C 0 rfl rfl dX6_onBy_20 ?_
  refine rg_get (pc := 21) C 134 6 12 kd_134 (by decide) rfl inlX6 (by decide) wd_608 rfl dX6_onBy_21 ?_
  refine rg_aload_n (pc := 24) C 0 rfl rfl dX6_onBy_24 ?_
  refine rg_get (pc := 25) C 134 6 13 kd_134 (by decide) rfl inlX6 (by decide) wd_609 rfl dX6_onBy_25 ?_
  obtain ⟨r2, w3, e4, hf⟩ := ra_bd hf
  refine rg_callSV (pc := 28) (As := [.ref ((zG Z).1 139), .ref ((zG Z).1 140)]) (st := []) C (kX6_copies (zl Z) (zG Z) C.hj k 139 140 kd_139 kd_140 _ _ _ e4) ysX6_copies rfl wd_593 ⟨Nat.le_of_ble_eq_true rfl, Nat.le_of_ble_eq_true rfl⟩ rfl (Nat.le_of_ble_eq_true rfl) dX6_onBy_28 ?_
  refine rg_iconst (pc := 31) (v := 0) C dX6_onBy_31 (by decide) ?_
  refine rg_istore (pc := 32) (lv' := [(0, .ref ((zG Z).1 134)), (1, .int v1), (2, .int v2), (3, .int (w 136 (ra_ix (12 + v1)))), (4, .int 0)]) C [1, 2, 3, 4, 0] rfl (by decide) dX6_onBy_32 ?_
  refine rg_iconst (pc := 34) (v := 1) C dX6_onBy_34 (by decide) ?_
  refine rg_istore (pc := 35) (lv' := [(0, .ref ((zG Z).1 134)), (1, .int v1), (2, .int v2), (3, .int (w 136 (ra_ix (12 + v1)))), (4, .int 0), (5, .int 1)]) C [1, 2, 3, 4, 5, 0] rfl (by decide) dX6_onBy_35 ?_
  refine rg_sub [0, 1, 3, 4, 5] rfl ?_
  exact ih1 _ _ _ _ _ _ _ _ hf
set_option maxHeartbeats 4000000 in
theorem tX6_onBy_1 {Z : ra_Z} {r : Int32} {w1 : ra_W} (C : ra_C Z cX6_onBy 6 RX6 5 116) (hQ : ra_QI Z r w1) (hr : (zmt Z).sig.returnType = (some .int)) (k : Nat) (n : Nat) (ih2 : pX6_onBy_2 Z r w1 k n) : pX6_onBy_1 Z r w1 k (n + 1) := by
  intro v1 v2 v3 v4 v5 s0 s1 w hf
  rw [fX6_onBy_1] at hf
  refine rg_iload (pc := 37) C 4 rfl dX6_onBy_37 ?_
  refine rg_bipush (pc := 39) (v := 20) C dX6_onBy_39 (by decide) ?_
  refine rg_icmp_gt (pc := 41) (tgt := 83) C dX6_onBy_41 (by decide) (fun c1 => ?_) (fun c1 => ?_)
  · replace hf := ra_t hf c1
    refine rg_aload_n (pc := 83) C 0 rfl rfl dX6_onBy_83 ?_
    refine rg_get (pc := 84) C 134 6 9 kd_134 (by decide) rfl inlX6 (by decide) wd_605 rfl dX6_onBy_84 ?_
    refine rg_bipush (pc := 87) (v := 12) C dX6_onBy_87 (by decide) ?_
    refine rg_iload_n (pc := 89) C 1 rfl rfl dX6_onBy_89 ?_
    refine rg_iadd (pc := 90) C dX6_onBy_90 ?_
    refine rg_iload_n (pc := 91) C 2 rfl rfl dX6_onBy_91 ?_
    obtain ⟨g2, hf⟩ := ra_gd hf
    refine rg_iast (pc := 92) (j := (ra_ix (12 + v1))) C 136 kd_136 rfl g2 dX6_onBy_92 ?_
    refine rg_iload (pc := 93) C 3 rfl dX6_onBy_93 ?_
    exact rg_iret (pc := 95) C hQ hr hf dX6_onBy_95
  · replace hf := ra_f hf c1
    refine rg_aload_n (pc := 44) C 0 rfl rfl dX6_onBy_44 ?_
    refine rg_aload_n (pc := 45) C 0 rfl rfl dX6_onBy_45 ?_
    refine rg_get (pc := 46) C 134 6 13 kd_134 (by decide) rfl inlX6 (by decide) wd_609 rfl dX6_onBy_46 ?_
    obtain ⟨r3, w4, e5, hf⟩ := ra_bd hf
    refine rg_callVV (pc := 49) (As := [.ref ((zG Z).1 140)]) (st := []) C (kX6_goes (zl Z) (zG Z) C.hj k 140 kd_140 _ _ _ e5) kd_134 (by decide) rfl ysX6_goes rfl wd_727 ⟨Nat.le_of_ble_eq_true rfl, Nat.le_of_ble_eq_true rfl⟩ rfl (Nat.le_of_ble_eq_true rfl) dX6_onBy_49 ?_
    refine rg_iload (pc := 52) C 3 rfl dX6_onBy_52 ?_
    refine rg_aload_n (pc := 54) C 0 rfl rfl dX6_onBy_54 ?_
    refine rg_aload_n (pc := 55) C 0 rfl rfl dX6_onBy_55 ?_
    refine rg_get (pc := 56) C 134 6 13 kd_134 (by decide) rfl inlX6 (by decide) wd_609 rfl dX6_onBy_56 ?_
    refine rg_iload_n (pc := 59) C 1 rfl rfl dX6_onBy_59 ?_
    obtain ⟨r6, w7, e8, hf⟩ := ra_bd hf
    refine rg_callVI (pc := 60) (As := [.ref ((zG Z).1 140), .int v1]) (st := [.int v4]) C (kX6_isOn (zl Z) (zG Z) C.hj k 140 kd_140 _ _ _ _ e8) kd_134 (by decide) rfl ysX6_isOn rfl wd_792 ⟨Nat.le_of_ble_eq_true rfl, Nat.le_of_ble_eq_true rfl⟩ rfl (Nat.le_of_ble_eq_true rfl) dX6_onBy_60 ?_
    refine rg_if_eq (pc := 63) (tgt := 73) C dX6_onBy_63 (by decide) (fun c9 => ?_) (fun c9 => ?_)
    · replace hf := ra_t hf c9
      refine rg_iconst (pc := 73) (v := 0) C dX6_onBy_73 (by decide) ?_
      refine rg_sub [0, 1, 2, 4] rfl ?_
      exact ih2 _ _ _ _ _ _ _ _ hf
    · replace hf := ra_f hf c9
      refine rg_iconst (pc := 66) (v := 1) C dX6_onBy_66 (by decide) ?_
      refine rg_iload (pc := 67) C 4 rfl dX6_onBy_67 ?_
      refine rg_ishl (pc := 69) C dX6_onBy_69 ?_
      refine rg_goto (pc := 70) (tgt := 74) C dX6_onBy_70 (by decide) ?_
      refine rg_sub [0, 1, 2, 4] rfl ?_
      exact ih2 _ _ _ _ _ _ _ _ hf
set_option maxHeartbeats 4000000 in
theorem tX6_onBy_2 {Z : ra_Z} {r : Int32} {w1 : ra_W} (C : ra_C Z cX6_onBy 6 RX6 5 116) (hQ : ra_QI Z r w1) (hr : (zmt Z).sig.returnType = (some .int)) (k : Nat) (n : Nat) (ih1 : pX6_onBy_1 Z r w1 k n) : pX6_onBy_2 Z r w1 k (n + 1) := by
  intro v1 v2 v3 v4 v5 s0 s1 w hf
  rw [fX6_onBy_2] at hf
  refine rg_ior (pc := 74) C dX6_onBy_74 ?_
  refine rg_istore (pc := 75) (lv' := [(0, .ref ((zG Z).1 134)), (1, .int v1), (3, .int v3), (4, .int (s1 ||| s0)), (5, .int v5)]) C [1, 2, 3, 0, 4] rfl (by decide) dX6_onBy_75 ?_
  refine rg_iinc (pc := 77) (v := (v5 + 1)) (lv' := [(0, .ref ((zG Z).1 134)), (1, .int v1), (3, .int v3), (4, .int (s1 ||| s0)), (5, .int (v5 + 1))]) C 4 rfl [1, 2, 3, 4, 0] (ra_ii (by decide)) rfl (by decide) dX6_onBy_77 ?_
  refine rg_goto (pc := 80) (tgt := 37) C dX6_onBy_80 (by decide) ?_
  exact ih1 _ _ _ _ _ _ _ _ hf
theorem tX6_onBy {Z : ra_Z} {r : Int32} {w1 : ra_W} (C : ra_C Z cX6_onBy 6 RX6 5 116) (hQ : ra_QI Z r w1) (hr : (zmt Z).sig.returnType = (some .int)) (k : Nat) : ∀ n : Nat, pX6_onBy_0 Z r w1 k n ∧ pX6_onBy_1 Z r w1 k n ∧ pX6_onBy_2 Z r w1 k n := by
  intro n
  induction n with
  | zero => exact ⟨(fun _ _ _ _ _ _ _ _ h => by cases h), (fun _ _ _ _ _ _ _ _ h => by cases h), (fun _ _ _ _ _ _ _ _ h => by cases h)⟩
  | succ n ih =>
    obtain ⟨ih0, ih1, ih2⟩ := ih
    exact ⟨tX6_onBy_0 C hQ hr k n ih1, tX6_onBy_1 C hQ hr k n ih2, tX6_onBy_2 C hQ hr k n ih1⟩
theorem kX6_onBy (l : Launch) (G : ra_G) (hj : ra_inj G) (k : Nat) (v1 : Int32) (v2 : Int32) (w : ra_W) (r : Int32) (w1 : ra_W) (h : FX6_onBy k v1 v2 w = some (r, w1)) : ra_MI l G yX6_onBy cX6_onBy 6 (some .int) 5 116 [.ref (G.1 134), .int v1, .int v2] w r w1 :=
  ra_entryI (own := RX6) (by decide) rfl (Nat.le_of_ble_eq_true rfl) hj (fun Z hl hG C hQ hr => by subst hl; subst hG; exact (tX6_onBy C hQ hr k k).1 _ _ _ _ _ _ _ _ h)
theorem ysX6_onBy : ra_YV yX6_onBy cX6_onBy 6 (some .int) 2 RX6 := ⟨⟨wd_7, wd_882, by decide, by decide, by decide⟩, wd_881, wp_48⟩
/-- TrunkRadioModel.isAsSeen -/
def fX6_isAsSeen (k : Nat) : Nat → Nat → Int32 → Int32 → Int32 → Int32 → ra_W → Option (Int32 × ra_W)
  | 0, _, _, _, _, _, _ => none
  | n + 1, L, v1, v2, v3, s0, w => match L with
    | 0 => fX6_isAsSeen k n 1 v1 1 0 0 w
    | 1 => if (w 134 20) ≤ v3 then (if (v2 = 0 ∨ v2 = 1) then some (v2, w) else none) else (if v2 = 0 then (fX6_isAsSeen k n 2 v1 0 v3 0 w) else (if ra_in v3 6 then if ((v1 >>> ((w 144 (ra_ix v3)) &&& 31)) &&& 1) = (w 145 (ra_ix v3)) then (fX6_isAsSeen k n 3 v1 0 v3 1 w) else (fX6_isAsSeen k n 2 v1 0 v3 0 w) else none))
    | 2 => fX6_isAsSeen k n 3 v1 0 v3 0 w
    | _ => fX6_isAsSeen k n 1 v1 s0 (v3 + 1) 0 w
theorem fX6_isAsSeen_0 (k : Nat) (n : Nat) (v1 : Int32) (v2 : Int32) (v3 : Int32) (s0 : Int32) (w : ra_W) : fX6_isAsSeen k (n + 1) 0 v1 v2 v3 s0 w = (fX6_isAsSeen k n 1 v1 1 0 0 w) := rfl
theorem fX6_isAsSeen_1 (k : Nat) (n : Nat) (v1 : Int32) (v2 : Int32) (v3 : Int32) (s0 : Int32) (w : ra_W) : fX6_isAsSeen k (n + 1) 1 v1 v2 v3 s0 w = (if (w 134 20) ≤ v3 then (if (v2 = 0 ∨ v2 = 1) then some (v2, w) else none) else (if v2 = 0 then (fX6_isAsSeen k n 2 v1 0 v3 0 w) else (if ra_in v3 6 then if ((v1 >>> ((w 144 (ra_ix v3)) &&& 31)) &&& 1) = (w 145 (ra_ix v3)) then (fX6_isAsSeen k n 3 v1 0 v3 1 w) else (fX6_isAsSeen k n 2 v1 0 v3 0 w) else none))) := rfl
theorem fX6_isAsSeen_2 (k : Nat) (n : Nat) (v1 : Int32) (v2 : Int32) (v3 : Int32) (s0 : Int32) (w : ra_W) : fX6_isAsSeen k (n + 1) 2 v1 v2 v3 s0 w = (fX6_isAsSeen k n 3 v1 0 v3 0 w) := rfl
theorem fX6_isAsSeen_3 (k : Nat) (n : Nat) (v1 : Int32) (v2 : Int32) (v3 : Int32) (s0 : Int32) (w : ra_W) : fX6_isAsSeen k (n + 1) 3 v1 v2 v3 s0 w = (fX6_isAsSeen k n 1 v1 s0 (v3 + 1) 0 w) := rfl
def FX6_isAsSeen (k : Nat) (v1 : Int32) (w : ra_W) : Option (Int32 × ra_W) := fX6_isAsSeen k k 0 v1 0 0 0 w
def pX6_isAsSeen_0 (Z : ra_Z) (r : Int32) (w1 : ra_W) (k : Nat) (n : Nat) : Prop := ∀ (v1 : Int32) (v2 : Int32) (v3 : Int32) (s0 : Int32) (w : ra_W), fX6_isAsSeen k n 0 v1 v2 v3 s0 w = some (r, w1) → ra_J Z 4 0 [(0, .ref ((zG Z).1 134)), (1, .int v1)] [] w
def pX6_isAsSeen_1 (Z : ra_Z) (r : Int32) (w1 : ra_W) (k : Nat) (n : Nat) : Prop := ∀ (v1 : Int32) (v2 : Int32) (v3 : Int32) (s0 : Int32) (w : ra_W), fX6_isAsSeen k n 1 v1 v2 v3 s0 w = some (r, w1) → ra_J Z 4 4 [(0, .ref ((zG Z).1 134)), (1, .int v1), (2, .int v2), (3, .int v3)] [] w
def pX6_isAsSeen_2 (Z : ra_Z) (r : Int32) (w1 : ra_W) (k : Nat) (n : Nat) : Prop := ∀ (v1 : Int32) (v2 : Int32) (v3 : Int32) (s0 : Int32) (w : ra_W), fX6_isAsSeen k n 2 v1 v2 v3 s0 w = some (r, w1) → ra_J Z 4 39 [(0, .ref ((zG Z).1 134)), (1, .int v1), (3, .int v3)] [] w
def pX6_isAsSeen_3 (Z : ra_Z) (r : Int32) (w1 : ra_W) (k : Nat) (n : Nat) : Prop := ∀ (v1 : Int32) (v2 : Int32) (v3 : Int32) (s0 : Int32) (w : ra_W), fX6_isAsSeen k n 3 v1 v2 v3 s0 w = some (r, w1) → ra_J Z 4 40 [(0, .ref ((zG Z).1 134)), (1, .int v1), (3, .int v3)] [.int s0] w
set_option maxHeartbeats 4000000 in
theorem tX6_isAsSeen_0 {Z : ra_Z} {r : Int32} {w1 : ra_W} (C : ra_C Z cX6_isAsSeen 4 RX6 0 0) (hQ : ra_QI Z r w1) (hr : (zmt Z).sig.returnType = (some .boolean)) (k : Nat) (n : Nat) (ih1 : pX6_isAsSeen_1 Z r w1 k n) : pX6_isAsSeen_0 Z r w1 k (n + 1) := by
  intro v1 v2 v3 s0 w hf
  rw [fX6_isAsSeen_0] at hf
  refine rg_iconst (pc := 0) (v := 1) C dX6_isAsSeen_0 (by decide) ?_
  refine rg_istore_n (pc := 1) (lv' := [(0, .ref ((zG Z).1 134)), (1, .int v1), (2, .int 1)]) C [1, 2, 0] rfl rfl (by decide) dX6_isAsSeen_1 ?_
  refine rg_iconst (pc := 2) (v := 0) C dX6_isAsSeen_2 (by decide) ?_
  refine rg_istore_n (pc := 3) (lv' := [(0, .ref ((zG Z).1 134)), (1, .int v1), (2, .int 1), (3, .int 0)]) C [1, 2, 3, 0] rfl rfl (by decide) dX6_isAsSeen_3 ?_
  exact ih1 _ _ _ _ _ hf
set_option maxHeartbeats 4000000 in
theorem tX6_isAsSeen_1 {Z : ra_Z} {r : Int32} {w1 : ra_W} (C : ra_C Z cX6_isAsSeen 4 RX6 0 0) (hQ : ra_QI Z r w1) (hr : (zmt Z).sig.returnType = (some .boolean)) (k : Nat) (n : Nat) (ih2 : pX6_isAsSeen_2 Z r w1 k n) (ih3 : pX6_isAsSeen_3 Z r w1 k n) : pX6_isAsSeen_1 Z r w1 k (n + 1) := by
  intro v1 v2 v3 s0 w hf
  rw [fX6_isAsSeen_1] at hf
  refine rg_iload_n (pc := 4) C 3 rfl rfl dX6_isAsSeen_4 ?_
  refine rg_aload_n (pc := 5) C 0 rfl rfl dX6_isAsSeen_5 ?_
  refine rg_get (pc := 6) C 134 6 20 kd_134 (by decide) rfl inlX6 (by decide) wd_616 rfl dX6_isAsSeen_6 ?_
  refine rg_icmp_ge (pc := 9) (tgt := 47) C dX6_isAsSeen_9 (by decide) (fun c1 => ?_) (fun c1 => ?_)
  · replace hf := ra_t hf c1
    refine rg_iload_n (pc := 47) C 2 rfl rfl dX6_isAsSeen_47 ?_
    obtain ⟨g2, hf⟩ := ra_gd hf
    exact rg_zret (pc := 48) C hQ hr g2 hf dX6_isAsSeen_48
  · replace hf := ra_f hf c1
    refine rg_iload_n (pc := 12) C 2 rfl rfl dX6_isAsSeen_12 ?_
    refine rg_if_eq (pc := 13) (tgt := 39) C dX6_isAsSeen_13 (by decide) (fun c3 => ?_) (fun c3 => ?_)
    · replace hf := ra_t hf c3
      refine rg_sub [0, 1, 3] rfl ?_
      exact ih2 _ _ _ _ _ hf
    · replace hf := ra_f hf c3
      refine rg_iload_n (pc := 16) C 1 rfl rfl dX6_isAsSeen_16 ?_
      refine rg_aload_n (pc := 17) C 0 rfl rfl dX6_isAsSeen_17 ?_
      refine rg_get (pc := 18) C 134 6 18 kd_134 (by decide) rfl inlX6 (by decide) wd_614 rfl dX6_isAsSeen_18 ?_
      refine rg_iload_n (pc := 21) C 3 rfl rfl dX6_isAsSeen_21 ?_
      obtain ⟨g4, hf⟩ := ra_gd hf
      refine rg_iald (pc := 22) (j := (ra_ix v3)) C 144 kd_144 rfl g4 dX6_isAsSeen_22 ?_
      refine rg_ishr (pc := 23) C dX6_isAsSeen_23 ?_
      refine rg_iconst (pc := 24) (v := 1) C dX6_isAsSeen_24 (by decide) ?_
      refine rg_iand (pc := 25) C dX6_isAsSeen_25 ?_
      refine rg_aload_n (pc := 26) C 0 rfl rfl dX6_isAsSeen_26 ?_
      refine rg_get (pc := 27) C 134 6 19 kd_134 (by decide) rfl inlX6 (by decide) wd_615 rfl dX6_isAsSeen_27 ?_
      refine rg_iload_n (pc := 30) C 3 rfl rfl dX6_isAsSeen_30 ?_
      refine rg_iald (pc := 31) (j := (ra_ix v3)) C 145 kd_145 rfl g4 dX6_isAsSeen_31 ?_
      refine rg_icmp_ne (pc := 32) (tgt := 39) C dX6_isAsSeen_32 (by decide) (fun c5 => ?_) (fun c5 => ?_)
      · replace hf := ra_f hf c5
        refine rg_sub [0, 1, 3] rfl ?_
        exact ih2 _ _ _ _ _ hf
      · replace hf := ra_t hf c5
        refine rg_iconst (pc := 35) (v := 1) C dX6_isAsSeen_35 (by decide) ?_
        refine rg_goto (pc := 36) (tgt := 40) C dX6_isAsSeen_36 (by decide) ?_
        refine rg_sub [0, 1, 3] rfl ?_
        exact ih3 _ _ _ _ _ hf
set_option maxHeartbeats 4000000 in
theorem tX6_isAsSeen_2 {Z : ra_Z} {r : Int32} {w1 : ra_W} (C : ra_C Z cX6_isAsSeen 4 RX6 0 0) (hQ : ra_QI Z r w1) (hr : (zmt Z).sig.returnType = (some .boolean)) (k : Nat) (n : Nat) (ih3 : pX6_isAsSeen_3 Z r w1 k n) : pX6_isAsSeen_2 Z r w1 k (n + 1) := by
  intro v1 v2 v3 s0 w hf
  rw [fX6_isAsSeen_2] at hf
  refine rg_iconst (pc := 39) (v := 0) C dX6_isAsSeen_39 (by decide) ?_
  exact ih3 _ _ _ _ _ hf
set_option maxHeartbeats 4000000 in
theorem tX6_isAsSeen_3 {Z : ra_Z} {r : Int32} {w1 : ra_W} (C : ra_C Z cX6_isAsSeen 4 RX6 0 0) (hQ : ra_QI Z r w1) (hr : (zmt Z).sig.returnType = (some .boolean)) (k : Nat) (n : Nat) (ih1 : pX6_isAsSeen_1 Z r w1 k n) : pX6_isAsSeen_3 Z r w1 k (n + 1) := by
  intro v1 v2 v3 s0 w hf
  rw [fX6_isAsSeen_3] at hf
  refine rg_istore_n (pc := 40) (lv' := [(0, .ref ((zG Z).1 134)), (1, .int v1), (2, .int s0), (3, .int v3)]) C [1, 2, 0, 3] rfl rfl (by decide) dX6_isAsSeen_40 ?_
  refine rg_iinc (pc := 41) (v := (v3 + 1)) (lv' := [(0, .ref ((zG Z).1 134)), (1, .int v1), (2, .int s0), (3, .int (v3 + 1))]) C 3 rfl [1, 2, 3, 0] (ra_ii (by decide)) rfl (by decide) dX6_isAsSeen_41 ?_
  refine rg_goto (pc := 44) (tgt := 4) C dX6_isAsSeen_44 (by decide) ?_
  exact ih1 _ _ _ _ _ hf
theorem tX6_isAsSeen {Z : ra_Z} {r : Int32} {w1 : ra_W} (C : ra_C Z cX6_isAsSeen 4 RX6 0 0) (hQ : ra_QI Z r w1) (hr : (zmt Z).sig.returnType = (some .boolean)) (k : Nat) : ∀ n : Nat, pX6_isAsSeen_0 Z r w1 k n ∧ pX6_isAsSeen_1 Z r w1 k n ∧ pX6_isAsSeen_2 Z r w1 k n ∧ pX6_isAsSeen_3 Z r w1 k n := by
  intro n
  induction n with
  | zero => exact ⟨(fun _ _ _ _ _ h => by cases h), (fun _ _ _ _ _ h => by cases h), (fun _ _ _ _ _ h => by cases h), (fun _ _ _ _ _ h => by cases h)⟩
  | succ n ih =>
    obtain ⟨ih0, ih1, ih2, ih3⟩ := ih
    exact ⟨tX6_isAsSeen_0 C hQ hr k n ih1, tX6_isAsSeen_1 C hQ hr k n ih2 ih3, tX6_isAsSeen_2 C hQ hr k n ih3, tX6_isAsSeen_3 C hQ hr k n ih1⟩
theorem kX6_isAsSeen (l : Launch) (G : ra_G) (hj : ra_inj G) (k : Nat) (v1 : Int32) (w : ra_W) (r : Int32) (w1 : ra_W) (h : FX6_isAsSeen k v1 w = some (r, w1)) : ra_MI l G yX6_isAsSeen cX6_isAsSeen 4 (some .boolean) 0 0 [.ref (G.1 134), .int v1] w r w1 :=
  ra_entryI (own := RX6) (by decide) rfl (Nat.le_of_ble_eq_true rfl) hj (fun Z hl hG C hQ hr => by subst hl; subst hG; exact (tX6_isAsSeen C hQ hr k k).1 _ _ _ _ _ h)
theorem ysX6_isAsSeen : ra_YV yX6_isAsSeen cX6_isAsSeen 4 (some .boolean) 1 RX6 := ⟨⟨wd_7, wd_886, by decide, by decide, by decide⟩, wd_885, wp_49⟩
/-- TrunkRadioModel.ranks -/
def fX6_ranks (k : Nat) : Nat → Nat → Int32 → Int32 → Int32 → Int32 → Int32 → ra_W → Option (Int32 × ra_W)
  | 0, _, _, _, _, _, _, _ => none
  | n + 1, L, v1, v2, v3, s0, s1, w => match L with
    | 0 => ra_bind (FX6_isRadio k v1 (ra_st w 134 0 0)) (fun r1 w2 => if r1 = 0 then (some ((-1), w2)) else (fX6_ranks k n 1 v1 0 0 0 0 w2))
    | 1 => if 4 ≤ v3 then (some (v2, w)) else (ra_bind (FX6_onBy k v1 v3 w) (fun r2 w3 => ra_bind (FX6_isAsSeen k r2 w3) (fun r5 w6 => if r5 = 0 then (fX6_ranks k n 2 v1 0 v3 0 v2 w6) else (fX6_ranks k n 2 v1 0 v3 (1 <<< (v3 &&& 31)) v2 w6))))
    | _ => fX6_ranks k n 1 v1 (s1 ||| s0) (v3 + 1) 0 0 w
theorem fX6_ranks_0 (k : Nat) (n : Nat) (v1 : Int32) (v2 : Int32) (v3 : Int32) (s0 : Int32) (s1 : Int32) (w : ra_W) : fX6_ranks k (n + 1) 0 v1 v2 v3 s0 s1 w = (ra_bind (FX6_isRadio k v1 (ra_st w 134 0 0)) (fun r1 w2 => if r1 = 0 then (some ((-1), w2)) else (fX6_ranks k n 1 v1 0 0 0 0 w2))) := rfl
theorem fX6_ranks_1 (k : Nat) (n : Nat) (v1 : Int32) (v2 : Int32) (v3 : Int32) (s0 : Int32) (s1 : Int32) (w : ra_W) : fX6_ranks k (n + 1) 1 v1 v2 v3 s0 s1 w = (if 4 ≤ v3 then (some (v2, w)) else (ra_bind (FX6_onBy k v1 v3 w) (fun r2 w3 => ra_bind (FX6_isAsSeen k r2 w3) (fun r5 w6 => if r5 = 0 then (fX6_ranks k n 2 v1 0 v3 0 v2 w6) else (fX6_ranks k n 2 v1 0 v3 (1 <<< (v3 &&& 31)) v2 w6))))) := rfl
theorem fX6_ranks_2 (k : Nat) (n : Nat) (v1 : Int32) (v2 : Int32) (v3 : Int32) (s0 : Int32) (s1 : Int32) (w : ra_W) : fX6_ranks k (n + 1) 2 v1 v2 v3 s0 s1 w = (fX6_ranks k n 1 v1 (s1 ||| s0) (v3 + 1) 0 0 w) := rfl
def FX6_ranks (k : Nat) (v1 : Int32) (w : ra_W) : Option (Int32 × ra_W) := fX6_ranks k k 0 v1 0 0 0 0 w
def pX6_ranks_0 (Z : ra_Z) (r : Int32) (w1 : ra_W) (k : Nat) (n : Nat) : Prop := ∀ (v1 : Int32) (v2 : Int32) (v3 : Int32) (s0 : Int32) (s1 : Int32) (w : ra_W), fX6_ranks k n 0 v1 v2 v3 s0 s1 w = some (r, w1) → ra_J Z 4 0 [(0, .ref ((zG Z).1 134)), (1, .int v1)] [] w
def pX6_ranks_1 (Z : ra_Z) (r : Int32) (w1 : ra_W) (k : Nat) (n : Nat) : Prop := ∀ (v1 : Int32) (v2 : Int32) (v3 : Int32) (s0 : Int32) (s1 : Int32) (w : ra_W), fX6_ranks k n 1 v1 v2 v3 s0 s1 w = some (r, w1) → ra_J Z 4 19 [(0, .ref ((zG Z).1 134)), (1, .int v1), (2, .int v2), (3, .int v3)] [] w
def pX6_ranks_2 (Z : ra_Z) (r : Int32) (w1 : ra_W) (k : Nat) (n : Nat) : Prop := ∀ (v1 : Int32) (v2 : Int32) (v3 : Int32) (s0 : Int32) (s1 : Int32) (w : ra_W), fX6_ranks k n 2 v1 v2 v3 s0 s1 w = some (r, w1) → ra_J Z 4 45 [(0, .ref ((zG Z).1 134)), (1, .int v1), (3, .int v3)] [.int s0, .int s1] w
set_option maxHeartbeats 4000000 in
theorem tX6_ranks_0 {Z : ra_Z} {r : Int32} {w1 : ra_W} (C : ra_C Z cX6_ranks 4 RX6 6 141) (hQ : ra_QI Z r w1) (hr : (zmt Z).sig.returnType = (some .int)) (k : Nat) (n : Nat) (ih1 : pX6_ranks_1 Z r w1 k n) : pX6_ranks_0 Z r w1 k (n + 1) := by
  intro v1 v2 v3 s0 s1 w hf
  rw [fX6_ranks_0] at hf
  refine rg_aload_n (pc := 0) C 0 rfl rfl dX6_ranks_0 ?_
  refine rg_iconst (pc := 1) (v := 0) C dX6_ranks_1 (by decide) ?_
  refine rg_put (pc := 2) C 134 6 0 kd_134 (by decide) rfl inlX6 tyX6 tyX6_ok nmX6 (by decide) wd_596 rfl rfl rfl (Nat.le_of_ble_eq_true rfl) rfl dX6_ranks_2 ?_
  refine rg_aload_n (pc := 5) C 0 rfl rfl dX6_ranks_5 ?_
  refine rg_iload_n (pc := 6) C 1 rfl rfl dX6_ranks_6 ?_
  obtain ⟨r1, w2, e3, hf⟩ := ra_bd hf
  refine rg_callVI (pc := 7) (As := [.int v1]) (st := []) C (kX6_isRadio (zl Z) (zG Z) C.hj k _ _ _ _ e3) kd_134 (by decide) rfl ysX6_isRadio rfl wd_800 ⟨Nat.le_of_ble_eq_true rfl, Nat.le_of_ble_eq_true rfl⟩ rfl (Nat.le_of_ble_eq_true rfl) dX6_ranks_7 ?_
  refine rg_if_ne (pc := 10) (tgt := 15) C dX6_ranks_10 (by decide) (fun c4 => ?_) (fun c4 => ?_)
  · replace hf := ra_f hf c4
    refine rg_iconst (pc := 15) (v := 0) C dX6_ranks_15 (by decide) ?_
    refine rg_istore_n (pc := 16) (lv' := [(0, .ref ((zG Z).1 134)), (1, .int v1), (2, .int 0)]) C [1, 2, 0] rfl rfl (by decide) dX6_ranks_16 ?_
    refine rg_iconst (pc := 17) (v := 0) C dX6_ranks_17 (by decide) ?_
    refine rg_istore_n (pc := 18) (lv' := [(0, .ref ((zG Z).1 134)), (1, .int v1), (2, .int 0), (3, .int 0)]) C [1, 2, 3, 0] rfl rfl (by decide) dX6_ranks_18 ?_
    exact ih1 _ _ _ _ _ _ hf
  · replace hf := ra_t hf c4
    refine rg_iconst (pc := 13) (v := (-1)) C dX6_ranks_13 (by decide) ?_
    exact rg_iret (pc := 14) C hQ hr hf dX6_ranks_14
set_option maxHeartbeats 4000000 in
theorem tX6_ranks_1 {Z : ra_Z} {r : Int32} {w1 : ra_W} (C : ra_C Z cX6_ranks 4 RX6 6 141) (hQ : ra_QI Z r w1) (hr : (zmt Z).sig.returnType = (some .int)) (k : Nat) (n : Nat) (ih2 : pX6_ranks_2 Z r w1 k n) : pX6_ranks_1 Z r w1 k (n + 1) := by
  intro v1 v2 v3 s0 s1 w hf
  rw [fX6_ranks_1] at hf
  refine rg_iload_n (pc := 19) C 3 rfl rfl dX6_ranks_19 ?_
  refine rg_iconst (pc := 20) (v := 4) C dX6_ranks_20 (by decide) ?_
  refine rg_icmp_ge (pc := 21) (tgt := 53) C dX6_ranks_21 (by decide) (fun c1 => ?_) (fun c1 => ?_)
  · replace hf := ra_t hf c1
    refine rg_iload_n (pc := 53) C 2 rfl rfl dX6_ranks_53 ?_
    exact rg_iret (pc := 54) C hQ hr hf dX6_ranks_54
  · replace hf := ra_f hf c1
    refine rg_iload_n (pc := 24) C 2 rfl rfl dX6_ranks_24 ?_
    refine rg_aload_n (pc := 25) C 0 rfl rfl dX6_ranks_25 ?_
    refine rg_aload_n (pc := 26) C 0 rfl rfl dX6_ranks_26 ?_
    refine rg_iload_n (pc := 27) C 1 rfl rfl dX6_ranks_27 ?_
    refine rg_iload_n (pc := 28) C 3 rfl rfl dX6_ranks_28 ?_
    obtain ⟨r2, w3, e4, hf⟩ := ra_bd hf
    refine rg_callVI (pc := 29) (As := [.int v1, .int v3]) (st := [.ref ((zG Z).1 134), .int v2]) C (kX6_onBy (zl Z) (zG Z) C.hj k _ _ _ _ _ e4) kd_134 (by decide) rfl ysX6_onBy rfl wd_879 ⟨Nat.le_of_ble_eq_true rfl, Nat.le_of_ble_eq_true rfl⟩ rfl (Nat.le_of_ble_eq_true rfl) dX6_ranks_29 ?_
    obtain ⟨r5, w6, e7, hf⟩ := ra_bd hf
    refine rg_callVI (pc := 32) (As := [.int r2]) (st := [.int v2]) C (kX6_isAsSeen (zl Z) (zG Z) C.hj k _ _ _ _ e7) kd_134 (by decide) rfl ysX6_isAsSeen rfl wd_883 ⟨Nat.le_of_ble_eq_true rfl, Nat.le_of_ble_eq_true rfl⟩ rfl (Nat.le_of_ble_eq_true rfl) dX6_ranks_32 ?_
    refine rg_if_eq (pc := 35) (tgt := 44) C dX6_ranks_35 (by decide) (fun c8 => ?_) (fun c8 => ?_)
    · replace hf := ra_t hf c8
      refine rg_iconst (pc := 44) (v := 0) C dX6_ranks_44 (by decide) ?_
      refine rg_sub [0, 1, 3] rfl ?_
      exact ih2 _ _ _ _ _ _ hf
    · replace hf := ra_f hf c8
      refine rg_iconst (pc := 38) (v := 1) C dX6_ranks_38 (by decide) ?_
      refine rg_iload_n (pc := 39) C 3 rfl rfl dX6_ranks_39 ?_
      refine rg_ishl (pc := 40) C dX6_ranks_40 ?_
      refine rg_goto (pc := 41) (tgt := 45) C dX6_ranks_41 (by decide) ?_
      refine rg_sub [0, 1, 3] rfl ?_
      exact ih2 _ _ _ _ _ _ hf
set_option maxHeartbeats 4000000 in
theorem tX6_ranks_2 {Z : ra_Z} {r : Int32} {w1 : ra_W} (C : ra_C Z cX6_ranks 4 RX6 6 141) (hQ : ra_QI Z r w1) (hr : (zmt Z).sig.returnType = (some .int)) (k : Nat) (n : Nat) (ih1 : pX6_ranks_1 Z r w1 k n) : pX6_ranks_2 Z r w1 k (n + 1) := by
  intro v1 v2 v3 s0 s1 w hf
  rw [fX6_ranks_2] at hf
  refine rg_ior (pc := 45) C dX6_ranks_45 ?_
  refine rg_istore_n (pc := 46) (lv' := [(0, .ref ((zG Z).1 134)), (1, .int v1), (2, .int (s1 ||| s0)), (3, .int v3)]) C [1, 2, 0, 3] rfl rfl (by decide) dX6_ranks_46 ?_
  refine rg_iinc (pc := 47) (v := (v3 + 1)) (lv' := [(0, .ref ((zG Z).1 134)), (1, .int v1), (2, .int (s1 ||| s0)), (3, .int (v3 + 1))]) C 3 rfl [1, 2, 3, 0] (ra_ii (by decide)) rfl (by decide) dX6_ranks_47 ?_
  refine rg_goto (pc := 50) (tgt := 19) C dX6_ranks_50 (by decide) ?_
  exact ih1 _ _ _ _ _ _ hf
theorem tX6_ranks {Z : ra_Z} {r : Int32} {w1 : ra_W} (C : ra_C Z cX6_ranks 4 RX6 6 141) (hQ : ra_QI Z r w1) (hr : (zmt Z).sig.returnType = (some .int)) (k : Nat) : ∀ n : Nat, pX6_ranks_0 Z r w1 k n ∧ pX6_ranks_1 Z r w1 k n ∧ pX6_ranks_2 Z r w1 k n := by
  intro n
  induction n with
  | zero => exact ⟨(fun _ _ _ _ _ _ h => by cases h), (fun _ _ _ _ _ _ h => by cases h), (fun _ _ _ _ _ _ h => by cases h)⟩
  | succ n ih =>
    obtain ⟨ih0, ih1, ih2⟩ := ih
    exact ⟨tX6_ranks_0 C hQ hr k n ih1, tX6_ranks_1 C hQ hr k n ih2, tX6_ranks_2 C hQ hr k n ih1⟩
theorem kX6_ranks (l : Launch) (G : ra_G) (hj : ra_inj G) (k : Nat) (v1 : Int32) (w : ra_W) (r : Int32) (w1 : ra_W) (h : FX6_ranks k v1 w = some (r, w1)) : ra_MI l G yX6_ranks cX6_ranks 4 (some .int) 6 141 [.ref (G.1 134), .int v1] w r w1 :=
  ra_entryI (own := RX6) (by decide) rfl (Nat.le_of_ble_eq_true rfl) hj (fun Z hl hG C hQ hr => by subst hl; subst hG; exact (tX6_ranks C hQ hr k k).1 _ _ _ _ _ _ h)
theorem ysX6_ranks : ra_YV yX6_ranks cX6_ranks 4 (some .int) 1 RX6 := ⟨⟨wd_7, wd_878, by decide, by decide, by decide⟩, wd_876, wd_877⟩
/-- TrunkRadioModel.look -/
def fX6_look (k : Nat) : Nat → Nat → Int32 → Int32 → Int32 → Int32 → Int32 → Int32 → Int32 → ra_W → Option (Int32 × ra_W)
  | 0, _, _, _, _, _, _, _, _, _ => none
  | n + 1, L, v1, v2, v3, v4, v5, v6, s0, w => match L with
    | 0 => ra_bind (FX6_isRadio k v1 (ra_st w 134 0 0)) (fun r1 w2 => if r1 = 0 then (some ((-1), w2)) else (fX6_look k n 1 v1 0 0 0 0 0 0 w2))
    | 1 => if 21 ≤ v2 then (fX6_look k n 2 v1 0 0 0 0 0 0 w) else (if ra_in v2 21 then fX6_look k n 1 v1 (v2 + 1) 0 0 0 0 0 (ra_st w 148 (ra_ix v2) 0) else none)
    | 2 => if 4 ≤ v3 then (fX6_look k n 5 0 v2 (-9) 99 1 0 0 w) else (ra_bind (FX6_onBy k v1 v3 w) (fun r2 w3 => ra_bind (FX6_isAsSeen k r2 w3) (fun r5 w6 => if r5 = 0 then (fX6_look k n 4 v1 v2 v3 0 0 0 0 w6) else (fX6_look k n 3 v1 (v2 + 1) v3 r2 1 0 0 w6))))
    | 3 => if 21 ≤ v5 then (fX6_look k n 4 v1 v2 v3 0 0 0 0 w) else (if ra_in v5 21 then fX6_look k n 3 v1 v2 v3 v4 (v5 + 1) 0 0 (ra_st w 148 (ra_ix v5) ((w 148 (ra_ix v5)) + ((v4 >>> (v5 &&& 31)) &&& 1))) else none)
    | 4 => fX6_look k n 2 v1 v2 (v3 + 1) 0 0 0 0 w
    | 5 => if 21 ≤ v5 then (some (v3, w)) else (if v2 ≤ 1 then (some (v3, w)) else (if ra_in v5 21 then if (w 148 (ra_ix v5)) ≤ (v2 - (w 148 (ra_ix v5))) then (fX6_look k n 6 0 v2 v3 v4 v5 0 (v2 - (w 148 (ra_ix v5))) w) else (fX6_look k n 6 0 v2 v3 v4 v5 0 (w 148 (ra_ix v5)) w) else none))
    | 6 => if v4 ≤ s0 then (fX6_look k n 7 0 v2 0 v4 v5 s0 v3 w) else (fX6_look k n 7 0 v2 0 v4 v5 s0 v5 w)
    | 7 => if v4 ≤ v6 then (fX6_look k n 8 0 v2 s0 0 v5 0 v4 w) else (fX6_look k n 8 0 v2 s0 0 v5 0 v6 w)
    | _ => fX6_look k n 5 0 v2 v3 s0 (v5 + 1) 0 0 w
theorem fX6_look_0 (k : Nat) (n : Nat) (v1 : Int32) (v2 : Int32) (v3 : Int32) (v4 : Int32) (v5 : Int32) (v6 : Int32) (s0 : Int32) (w : ra_W) : fX6_look k (n + 1) 0 v1 v2 v3 v4 v5 v6 s0 w = (ra_bind (FX6_isRadio k v1 (ra_st w 134 0 0)) (fun r1 w2 => if r1 = 0 then (some ((-1), w2)) else (fX6_look k n 1 v1 0 0 0 0 0 0 w2))) := rfl
theorem fX6_look_1 (k : Nat) (n : Nat) (v1 : Int32) (v2 : Int32) (v3 : Int32) (v4 : Int32) (v5 : Int32) (v6 : Int32) (s0 : Int32) (w : ra_W) : fX6_look k (n + 1) 1 v1 v2 v3 v4 v5 v6 s0 w = (if 21 ≤ v2 then (fX6_look k n 2 v1 0 0 0 0 0 0 w) else (if ra_in v2 21 then fX6_look k n 1 v1 (v2 + 1) 0 0 0 0 0 (ra_st w 148 (ra_ix v2) 0) else none)) := rfl
theorem fX6_look_2 (k : Nat) (n : Nat) (v1 : Int32) (v2 : Int32) (v3 : Int32) (v4 : Int32) (v5 : Int32) (v6 : Int32) (s0 : Int32) (w : ra_W) : fX6_look k (n + 1) 2 v1 v2 v3 v4 v5 v6 s0 w = (if 4 ≤ v3 then (fX6_look k n 5 0 v2 (-9) 99 1 0 0 w) else (ra_bind (FX6_onBy k v1 v3 w) (fun r2 w3 => ra_bind (FX6_isAsSeen k r2 w3) (fun r5 w6 => if r5 = 0 then (fX6_look k n 4 v1 v2 v3 0 0 0 0 w6) else (fX6_look k n 3 v1 (v2 + 1) v3 r2 1 0 0 w6))))) := rfl
theorem fX6_look_3 (k : Nat) (n : Nat) (v1 : Int32) (v2 : Int32) (v3 : Int32) (v4 : Int32) (v5 : Int32) (v6 : Int32) (s0 : Int32) (w : ra_W) : fX6_look k (n + 1) 3 v1 v2 v3 v4 v5 v6 s0 w = (if 21 ≤ v5 then (fX6_look k n 4 v1 v2 v3 0 0 0 0 w) else (if ra_in v5 21 then fX6_look k n 3 v1 v2 v3 v4 (v5 + 1) 0 0 (ra_st w 148 (ra_ix v5) ((w 148 (ra_ix v5)) + ((v4 >>> (v5 &&& 31)) &&& 1))) else none)) := rfl
theorem fX6_look_4 (k : Nat) (n : Nat) (v1 : Int32) (v2 : Int32) (v3 : Int32) (v4 : Int32) (v5 : Int32) (v6 : Int32) (s0 : Int32) (w : ra_W) : fX6_look k (n + 1) 4 v1 v2 v3 v4 v5 v6 s0 w = (fX6_look k n 2 v1 v2 (v3 + 1) 0 0 0 0 w) := rfl
theorem fX6_look_5 (k : Nat) (n : Nat) (v1 : Int32) (v2 : Int32) (v3 : Int32) (v4 : Int32) (v5 : Int32) (v6 : Int32) (s0 : Int32) (w : ra_W) : fX6_look k (n + 1) 5 v1 v2 v3 v4 v5 v6 s0 w = (if 21 ≤ v5 then (some (v3, w)) else (if v2 ≤ 1 then (some (v3, w)) else (if ra_in v5 21 then if (w 148 (ra_ix v5)) ≤ (v2 - (w 148 (ra_ix v5))) then (fX6_look k n 6 0 v2 v3 v4 v5 0 (v2 - (w 148 (ra_ix v5))) w) else (fX6_look k n 6 0 v2 v3 v4 v5 0 (w 148 (ra_ix v5)) w) else none))) := rfl
theorem fX6_look_6 (k : Nat) (n : Nat) (v1 : Int32) (v2 : Int32) (v3 : Int32) (v4 : Int32) (v5 : Int32) (v6 : Int32) (s0 : Int32) (w : ra_W) : fX6_look k (n + 1) 6 v1 v2 v3 v4 v5 v6 s0 w = (if v4 ≤ s0 then (fX6_look k n 7 0 v2 0 v4 v5 s0 v3 w) else (fX6_look k n 7 0 v2 0 v4 v5 s0 v5 w)) := rfl
theorem fX6_look_7 (k : Nat) (n : Nat) (v1 : Int32) (v2 : Int32) (v3 : Int32) (v4 : Int32) (v5 : Int32) (v6 : Int32) (s0 : Int32) (w : ra_W) : fX6_look k (n + 1) 7 v1 v2 v3 v4 v5 v6 s0 w = (if v4 ≤ v6 then (fX6_look k n 8 0 v2 s0 0 v5 0 v4 w) else (fX6_look k n 8 0 v2 s0 0 v5 0 v6 w)) := rfl
theorem fX6_look_8 (k : Nat) (n : Nat) (v1 : Int32) (v2 : Int32) (v3 : Int32) (v4 : Int32) (v5 : Int32) (v6 : Int32) (s0 : Int32) (w : ra_W) : fX6_look k (n + 1) 8 v1 v2 v3 v4 v5 v6 s0 w = (fX6_look k n 5 0 v2 v3 s0 (v5 + 1) 0 0 w) := rfl
def FX6_look (k : Nat) (v1 : Int32) (w : ra_W) : Option (Int32 × ra_W) := fX6_look k k 0 v1 0 0 0 0 0 0 w
def pX6_look_0 (Z : ra_Z) (r : Int32) (w1 : ra_W) (k : Nat) (n : Nat) : Prop := ∀ (v1 : Int32) (v2 : Int32) (v3 : Int32) (v4 : Int32) (v5 : Int32) (v6 : Int32) (s0 : Int32) (w : ra_W), fX6_look k n 0 v1 v2 v3 v4 v5 v6 s0 w = some (r, w1) → ra_J Z 7 0 [(0, .ref ((zG Z).1 134)), (1, .int v1)] [] w
def pX6_look_1 (Z : ra_Z) (r : Int32) (w1 : ra_W) (k : Nat) (n : Nat) : Prop := ∀ (v1 : Int32) (v2 : Int32) (v3 : Int32) (v4 : Int32) (v5 : Int32) (v6 : Int32) (s0 : Int32) (w : ra_W), fX6_look k n 1 v1 v2 v3 v4 v5 v6 s0 w = some (r, w1) → ra_J Z 7 17 [(0, .ref ((zG Z).1 134)), (1, .int v1), (2, .int v2)] [] w
def pX6_look_2 (Z : ra_Z) (r : Int32) (w1 : ra_W) (k : Nat) (n : Nat) : Prop := ∀ (v1 : Int32) (v2 : Int32) (v3 : Int32) (v4 : Int32) (v5 : Int32) (v6 : Int32) (s0 : Int32) (w : ra_W), fX6_look k n 2 v1 v2 v3 v4 v5 v6 s0 w = some (r, w1) → ra_J Z 7 40 [(0, .ref ((zG Z).1 134)), (1, .int v1), (2, .int v2), (3, .int v3)] [] w
def pX6_look_3 (Z : ra_Z) (r : Int32) (w1 : ra_W) (k : Nat) (n : Nat) : Prop := ∀ (v1 : Int32) (v2 : Int32) (v3 : Int32) (v4 : Int32) (v5 : Int32) (v6 : Int32) (s0 : Int32) (w : ra_W), fX6_look k n 3 v1 v2 v3 v4 v5 v6 s0 w = some (r, w1) → ra_J Z 7 68 [(0, .ref ((zG Z).1 134)), (1, .int v1), (2, .int v2), (3, .int v3), (4, .int v4), (5, .int v5)] [] w
def pX6_look_4 (Z : ra_Z) (r : Int32) (w1 : ra_W) (k : Nat) (n : Nat) : Prop := ∀ (v1 : Int32) (v2 : Int32) (v3 : Int32) (v4 : Int32) (v5 : Int32) (v6 : Int32) (s0 : Int32) (w : ra_W), fX6_look k n 4 v1 v2 v3 v4 v5 v6 s0 w = some (r, w1) → ra_J Z 7 98 [(0, .ref ((zG Z).1 134)), (1, .int v1), (2, .int v2), (3, .int v3)] [] w
def pX6_look_5 (Z : ra_Z) (r : Int32) (w1 : ra_W) (k : Nat) (n : Nat) : Prop := ∀ (v1 : Int32) (v2 : Int32) (v3 : Int32) (v4 : Int32) (v5 : Int32) (v6 : Int32) (s0 : Int32) (w : ra_W), fX6_look k n 5 v1 v2 v3 v4 v5 v6 s0 w = some (r, w1) → ra_J Z 7 114 [(0, .ref ((zG Z).1 134)), (2, .int v2), (3, .int v3), (4, .int v4), (5, .int v5)] [] w
def pX6_look_6 (Z : ra_Z) (r : Int32) (w1 : ra_W) (k : Nat) (n : Nat) : Prop := ∀ (v1 : Int32) (v2 : Int32) (v3 : Int32) (v4 : Int32) (v5 : Int32) (v6 : Int32) (s0 : Int32) (w : ra_W), fX6_look k n 6 v1 v2 v3 v4 v5 v6 s0 w = some (r, w1) → ra_J Z 7 164 [(0, .ref ((zG Z).1 134)), (2, .int v2), (3, .int v3), (4, .int v4), (5, .int v5)] [.int s0] w
def pX6_look_7 (Z : ra_Z) (r : Int32) (w1 : ra_W) (k : Nat) (n : Nat) : Prop := ∀ (v1 : Int32) (v2 : Int32) (v3 : Int32) (v4 : Int32) (v5 : Int32) (v6 : Int32) (s0 : Int32) (w : ra_W), fX6_look k n 7 v1 v2 v3 v4 v5 v6 s0 w = some (r, w1) → ra_J Z 7 179 [(0, .ref ((zG Z).1 134)), (2, .int v2), (4, .int v4), (5, .int v5), (6, .int v6)] [.int s0] w
def pX6_look_8 (Z : ra_Z) (r : Int32) (w1 : ra_W) (k : Nat) (n : Nat) : Prop := ∀ (v1 : Int32) (v2 : Int32) (v3 : Int32) (v4 : Int32) (v5 : Int32) (v6 : Int32) (s0 : Int32) (w : ra_W), fX6_look k n 8 v1 v2 v3 v4 v5 v6 s0 w = some (r, w1) → ra_J Z 7 194 [(0, .ref ((zG Z).1 134)), (2, .int v2), (3, .int v3), (5, .int v5)] [.int s0] w
set_option maxHeartbeats 4000000 in
theorem tX6_look_0 {Z : ra_Z} {r : Int32} {w1 : ra_W} (C : ra_C Z cX6_look 7 RX6 6 141) (hQ : ra_QI Z r w1) (hr : (zmt Z).sig.returnType = (some .int)) (k : Nat) (n : Nat) (ih1 : pX6_look_1 Z r w1 k n) : pX6_look_0 Z r w1 k (n + 1) := by
  intro v1 v2 v3 v4 v5 v6 s0 w hf
  rw [fX6_look_0] at hf
  refine rg_aload_n (pc := 0) C 0 rfl rfl dX6_look_0 ?_
  refine rg_iconst (pc := 1) (v := 0) C dX6_look_1 (by decide) ?_
  refine rg_put (pc := 2) C 134 6 0 kd_134 (by decide) rfl inlX6 tyX6 tyX6_ok nmX6 (by decide) wd_596 rfl rfl rfl (Nat.le_of_ble_eq_true rfl) rfl dX6_look_2 ?_
  refine rg_aload_n (pc := 5) C 0 rfl rfl dX6_look_5 ?_
  refine rg_iload_n (pc := 6) C 1 rfl rfl dX6_look_6 ?_
  obtain ⟨r1, w2, e3, hf⟩ := ra_bd hf
  refine rg_callVI (pc := 7) (As := [.int v1]) (st := []) C (kX6_isRadio (zl Z) (zG Z) C.hj k _ _ _ _ e3) kd_134 (by decide) rfl ysX6_isRadio rfl wd_800 ⟨Nat.le_of_ble_eq_true rfl, Nat.le_of_ble_eq_true rfl⟩ rfl (Nat.le_of_ble_eq_true rfl) dX6_look_7 ?_
  refine rg_if_ne (pc := 10) (tgt := 15) C dX6_look_10 (by decide) (fun c4 => ?_) (fun c4 => ?_)
  · replace hf := ra_f hf c4
    refine rg_iconst (pc := 15) (v := 0) C dX6_look_15 (by decide) ?_
    refine rg_istore_n (pc := 16) (lv' := [(0, .ref ((zG Z).1 134)), (1, .int v1), (2, .int 0)]) C [1, 2, 0] rfl rfl (by decide) dX6_look_16 ?_
    exact ih1 _ _ _ _ _ _ _ _ hf
  · replace hf := ra_t hf c4
    refine rg_iconst (pc := 13) (v := (-1)) C dX6_look_13 (by decide) ?_
    exact rg_iret (pc := 14) C hQ hr hf dX6_look_14
set_option maxHeartbeats 4000000 in
theorem tX6_look_1 {Z : ra_Z} {r : Int32} {w1 : ra_W} (C : ra_C Z cX6_look 7 RX6 6 141) (hQ : ra_QI Z r w1) (hr : (zmt Z).sig.returnType = (some .int)) (k : Nat) (n : Nat) (ih1 : pX6_look_1 Z r w1 k n) (ih2 : pX6_look_2 Z r w1 k n) : pX6_look_1 Z r w1 k (n + 1) := by
  intro v1 v2 v3 v4 v5 v6 s0 w hf
  rw [fX6_look_1] at hf
  refine rg_iload_n (pc := 17) C 2 rfl rfl dX6_look_17 ?_
  refine rg_bipush (pc := 18) (v := 21) C dX6_look_18 (by decide) ?_
  refine rg_icmp_ge (pc := 20) (tgt := 36) C dX6_look_20 (by decide) (fun c1 => ?_) (fun c1 => ?_)
  · replace hf := ra_t hf c1
    refine rg_iconst (pc := 36) (v := 0) C dX6_look_36 (by decide) ?_
    refine rg_istore_n (pc := 37) (lv' := [(0, .ref ((zG Z).1 134)), (1, .int v1), (2, .int 0)]) C [1, 2, 0] rfl rfl (by decide) dX6_look_37 ?_
    refine rg_iconst (pc := 38) (v := 0) C dX6_look_38 (by decide) ?_
    refine rg_istore_n (pc := 39) (lv' := [(0, .ref ((zG Z).1 134)), (1, .int v1), (2, .int 0), (3, .int 0)]) C [1, 2, 3, 0] rfl rfl (by decide) dX6_look_39 ?_
    exact ih2 _ _ _ _ _ _ _ _ hf
  · replace hf := ra_f hf c1
    refine rg_aload_n (pc := 23) C 0 rfl rfl dX6_look_23 ?_
    refine rg_get (pc := 24) C 134 6 24 kd_134 (by decide) rfl inlX6 (by decide) wd_620 rfl dX6_look_24 ?_
    refine rg_iload_n (pc := 27) C 2 rfl rfl dX6_look_27 ?_
    refine rg_iconst (pc := 28) (v := 0) C dX6_look_28 (by decide) ?_
    obtain ⟨g2, hf⟩ := ra_gd hf
    refine rg_iast (pc := 29) (j := (ra_ix v2)) C 148 kd_148 rfl g2 dX6_look_29 ?_
    refine rg_iinc (pc := 30) (v := (v2 + 1)) (lv' := [(0, .ref ((zG Z).1 134)), (1, .int v1), (2, .int (v2 + 1))]) C 2 rfl [1, 2, 0] (ra_ii (by decide)) rfl (by decide) dX6_look_30 ?_
    refine rg_goto (pc := 33) (tgt := 17) C dX6_look_33 (by decide) ?_
    exact ih1 _ _ _ _ _ _ _ _ hf
set_option maxHeartbeats 4000000 in
theorem tX6_look_2 {Z : ra_Z} {r : Int32} {w1 : ra_W} (C : ra_C Z cX6_look 7 RX6 6 141) (hQ : ra_QI Z r w1) (hr : (zmt Z).sig.returnType = (some .int)) (k : Nat) (n : Nat) (ih3 : pX6_look_3 Z r w1 k n) (ih4 : pX6_look_4 Z r w1 k n) (ih5 : pX6_look_5 Z r w1 k n) : pX6_look_2 Z r w1 k (n + 1) := by
  intro v1 v2 v3 v4 v5 v6 s0 w hf
  rw [fX6_look_2] at hf
  refine rg_iload_n (pc := 40) C 3 rfl rfl dX6_look_40 ?_
  refine rg_iconst (pc := 41) (v := 4) C dX6_look_41 (by decide) ?_
  refine rg_icmp_ge (pc := 42) (tgt := 104) C dX6_look_42 (by decide) (fun c1 => ?_) (fun c1 => ?_)
  · replace hf := ra_t hf c1
    refine rg_bipush (pc := 104) (v := (-9)) C dX6_look_104 (by decide) ?_
    refine rg_istore_n (pc := 106) (lv' := [(0, .ref ((zG Z).1 134)), (1, .int v1), (2, .int v2), (3, .int (-9))]) C [1, 2, 3, 0] rfl rfl (by decide) dX6_look_106 ?_
    refine rg_bipush (pc := 107) (v := 99) C dX6_look_107 (by decide) ?_
    refine rg_istore (pc := 109) (lv' := [(0, .ref ((zG Z).1 134)), (1, .int v1), (2, .int v2), (3, .int (-9)), (4, .int 99)]) C [1, 2, 3, 4, 0] rfl (by decide) dX6_look_109 ?_
    refine rg_iconst (pc := 111) (v := 1) C dX6_look_111 (by decide) ?_
    refine rg_istore (pc := 112) (lv' := [(0, .ref ((zG Z).1 134)), (1, .int v1), (2, .int v2), (3, .int (-9)), (4, .int 99), (5, .int 1)]) C [1, 2, 3, 4, 5, 0] rfl (by decide) dX6_look_112 ?_
    refine rg_sub [0, 2, 3, 4, 5] rfl ?_
    exact ih5 _ _ _ _ _ _ _ _ hf
  · replace hf := ra_f hf c1
    refine rg_aload_n (pc := 45) C 0 rfl rfl dX6_look_45 ?_
    refine rg_iload_n (pc := 46) C 1 rfl rfl dX6_look_46 ?_
    refine rg_iload_n (pc := 47) C 3 rfl rfl dX6_look_47 ?_
    obtain ⟨r2, w3, e4, hf⟩ := ra_bd hf
    refine rg_callVI (pc := 48) (As := [.int v1, .int v3]) (st := []) C (kX6_onBy (zl Z) (zG Z) C.hj k _ _ _ _ _ e4) kd_134 (by decide) rfl ysX6_onBy rfl wd_879 ⟨Nat.le_of_ble_eq_true rfl, Nat.le_of_ble_eq_true rfl⟩ rfl (Nat.le_of_ble_eq_true rfl) dX6_look_48 ?_
    refine rg_istore (pc := 51) (lv' := [(0, .ref ((zG Z).1 134)), (1, .int v1), (2, .int v2), (3, .int v3), (4, .int r2)]) C [1, 2, 3, 4, 0] rfl (by decide) dX6_look_51 ?_
    refine rg_aload_n (pc := 53) C 0 rfl rfl dX6_look_53 ?_
    refine rg_iload (pc := 54) C 4 rfl dX6_look_54 ?_
    obtain ⟨r5, w6, e7, hf⟩ := ra_bd hf
    refine rg_callVI (pc := 56) (As := [.int r2]) (st := []) C (kX6_isAsSeen (zl Z) (zG Z) C.hj k _ _ _ _ e7) kd_134 (by decide) rfl ysX6_isAsSeen rfl wd_883 ⟨Nat.le_of_ble_eq_true rfl, Nat.le_of_ble_eq_true rfl⟩ rfl (Nat.le_of_ble_eq_true rfl) dX6_look_56 ?_
    refine rg_if_eq (pc := 59) (tgt := 98) C dX6_look_59 (by decide) (fun c8 => ?_) (fun c8 => ?_)
    · replace hf := ra_t hf c8
      refine rg_sub [0, 1, 2, 3] rfl ?_
      exact ih4 _ _ _ _ _ _ _ _ hf
    · replace hf := ra_f hf c8
      refine rg_iinc (pc := 62) (v := (v2 + 1)) (lv' := [(0, .ref ((zG Z).1 134)), (1, .int v1), (2, .int (v2 + 1)), (3, .int v3), (4, .int r2)]) C 2 rfl [1, 2, 0, 3, 4] (ra_ii (by decide)) rfl (by decide) dX6_look_62 ?_
      refine rg_iconst (pc := 65) (v := 1) C dX6_look_65 (by decide) ?_
      refine rg_istore (pc := 66) (lv' := [(0, .ref ((zG Z).1 134)), (1, .int v1), (2, .int (v2 + 1)), (3, .int v3), (4, .int r2), (5, .int 1)]) C [1, 2, 3, 4, 5, 0] rfl (by decide) dX6_look_66 ?_
      exact ih3 _ _ _ _ _ _ _ _ hf
set_option maxHeartbeats 4000000 in
theorem tX6_look_3 {Z : ra_Z} {r : Int32} {w1 : ra_W} (C : ra_C Z cX6_look 7 RX6 6 141) (hQ : ra_QI Z r w1) (hr : (zmt Z).sig.returnType = (some .int)) (k : Nat) (n : Nat) (ih3 : pX6_look_3 Z r w1 k n) (ih4 : pX6_look_4 Z r w1 k n) : pX6_look_3 Z r w1 k (n + 1) := by
  intro v1 v2 v3 v4 v5 v6 s0 w hf
  rw [fX6_look_3] at hf
  refine rg_iload (pc := 68) C 5 rfl dX6_look_68 ?_
  refine rg_bipush (pc := 70) (v := 21) C dX6_look_70 (by decide) ?_
  refine rg_icmp_ge (pc := 72) (tgt := 98) C dX6_look_72 (by decide) (fun c1 => ?_) (fun c1 => ?_)
  · replace hf := ra_t hf c1
    refine rg_sub [0, 1, 2, 3] rfl ?_
    exact ih4 _ _ _ _ _ _ _ _ hf
  · replace hf := ra_f hf c1
    refine rg_aload_n (pc := 75) C 0 rfl rfl dX6_look_75 ?_
    refine rg_get (pc := 76) C 134 6 24 kd_134 (by decide) rfl inlX6 (by decide) wd_620 rfl dX6_look_76 ?_
    refine rg_iload (pc := 79) C 5 rfl dX6_look_79 ?_
    refine rg_dup2 (pc := 81) C rfl rfl dX6_look_81 ?_
    obtain ⟨g2, hf⟩ := ra_gd hf
    refine rg_iald (pc := 82) (j := (ra_ix v5)) C 148 kd_148 rfl g2 dX6_look_82 ?_
    refine rg_iload (pc := 83) C 4 rfl dX6_look_83 ?_
    refine rg_iload (pc := 85) C 5 rfl dX6_look_85 ?_
    refine rg_ishr (pc := 87) C dX6_look_87 ?_
    refine rg_iconst (pc := 88) (v := 1) C dX6_look_88 (by decide) ?_
    refine rg_iand (pc := 89) C dX6_look_89 ?_
    refine rg_iadd (pc := 90) C dX6_look_90 ?_
    refine rg_iast (pc := 91) (j := (ra_ix v5)) C 148 kd_148 rfl g2 dX6_look_91 ?_
    refine rg_iinc (pc := 92) (v := (v5 + 1)) (lv' := [(0, .ref ((zG Z).1 134)), (1, .int v1), (2, .int v2), (3, .int v3), (4, .int v4), (5, .int (v5 + 1))]) C 5 rfl [1, 2, 3, 4, 5, 0] (ra_ii (by decide)) rfl (by decide) dX6_look_92 ?_
    refine rg_goto (pc := 95) (tgt := 68) C dX6_look_95 (by decide) ?_
    exact ih3 _ _ _ _ _ _ _ _ hf
set_option maxHeartbeats 4000000 in
theorem tX6_look_4 {Z : ra_Z} {r : Int32} {w1 : ra_W} (C : ra_C Z cX6_look 7 RX6 6 141) (hQ : ra_QI Z r w1) (hr : (zmt Z).sig.returnType = (some .int)) (k : Nat) (n : Nat) (ih2 : pX6_look_2 Z r w1 k n) : pX6_look_4 Z r w1 k (n + 1) := by
  intro v1 v2 v3 v4 v5 v6 s0 w hf
  rw [fX6_look_4] at hf
  refine rg_iinc (pc := 98) (v := (v3 + 1)) (lv' := [(0, .ref ((zG Z).1 134)), (1, .int v1), (2, .int v2), (3, .int (v3 + 1))]) C 3 rfl [1, 2, 3, 0] (ra_ii (by decide)) rfl (by decide) dX6_look_98 ?_
  refine rg_goto (pc := 101) (tgt := 40) C dX6_look_101 (by decide) ?_
  exact ih2 _ _ _ _ _ _ _ _ hf
set_option maxHeartbeats 4000000 in
theorem tX6_look_5 {Z : ra_Z} {r : Int32} {w1 : ra_W} (C : ra_C Z cX6_look 7 RX6 6 141) (hQ : ra_QI Z r w1) (hr : (zmt Z).sig.returnType = (some .int)) (k : Nat) (n : Nat) (ih6 : pX6_look_6 Z r w1 k n) : pX6_look_5 Z r w1 k (n + 1) := by
  intro v1 v2 v3 v4 v5 v6 s0 w hf
  rw [fX6_look_5] at hf
  refine rg_iload (pc := 114) C 4 rfl dX6_look_114 ?_
  refine rg_bipush (pc := 116) (v := 21) C dX6_look_116 (by decide) ?_
  refine rg_icmp_ge (pc := 118) (tgt := 202) C dX6_look_118 (by decide) (fun c1 => ?_) (fun c1 => ?_)
  · replace hf := ra_t hf c1
    refine rg_iload_n (pc := 202) C 2 rfl rfl dX6_look_202 ?_
    exact rg_iret (pc := 203) C hQ hr hf dX6_look_203
  · replace hf := ra_f hf c1
    refine rg_iload_n (pc := 121) C 1 rfl rfl dX6_look_121 ?_
    refine rg_iconst (pc := 122) (v := 1) C dX6_look_122 (by decide) ?_
    refine rg_icmp_le (pc := 123) (tgt := 202) C dX6_look_123 (by decide) (fun c2 => ?_) (fun c2 => ?_)
    · replace hf := ra_t hf c2
      refine rg_iload_n (pc := 202) C 2 rfl rfl dX6_look_202 ?_
      exact rg_iret (pc := 203) C hQ hr hf dX6_look_203
    · replace hf := ra_f hf c2
      refine rg_aload_n (pc := 126) C 0 rfl rfl dX6_look_126 ?_
      refine rg_get (pc := 127) C 134 6 24 kd_134 (by decide) rfl inlX6 (by decide) wd_620 rfl dX6_look_127 ?_
      refine rg_iload (pc := 130) C 4 rfl dX6_look_130 ?_
      obtain ⟨g3, hf⟩ := ra_gd hf
      refine rg_iald (pc := 132) (j := (ra_ix v5)) C 148 kd_148 rfl g3 dX6_look_132 ?_
      refine rg_iload_n (pc := 133) C 1 rfl rfl dX6_look_133 ?_
      refine rg_aload_n (pc := 134) C 0 rfl rfl dX6_look_134 ?_
      refine rg_get (pc := 135) C 134 6 24 kd_134 (by decide) rfl inlX6 (by decide) wd_620 rfl dX6_look_135 ?_
      refine rg_iload (pc := 138) C 4 rfl dX6_look_138 ?_
      refine rg_iald (pc := 140) (j := (ra_ix v5)) C 148 kd_148 rfl g3 dX6_look_140 ?_
      refine rg_isub (pc := 141) C dX6_look_141 ?_
      refine rg_icmp_le (pc := 142) (tgt := 155) C dX6_look_142 (by decide) (fun c4 => ?_) (fun c4 => ?_)
      · replace hf := ra_t hf c4
        refine rg_iload_n (pc := 155) C 1 rfl rfl dX6_look_155 ?_
        refine rg_aload_n (pc := 156) C 0 rfl rfl dX6_look_156 ?_
        refine rg_get (pc := 157) C 134 6 24 kd_134 (by decide) rfl inlX6 (by decide) wd_620 rfl dX6_look_157 ?_
        refine rg_iload (pc := 160) C 4 rfl dX6_look_160 ?_
        refine rg_iald (pc := 162) (j := (ra_ix v5)) C 148 kd_148 rfl g3 dX6_look_162 ?_
        refine rg_isub (pc := 163) C dX6_look_163 ?_
        exact ih6 _ _ _ _ _ _ _ _ hf
      · replace hf := ra_f hf c4
        refine rg_aload_n (pc := 145) C 0 rfl rfl dX6_look_145 ?_
        refine rg_get (pc := 146) C 134 6 24 kd_134 (by decide) rfl inlX6 (by decide) wd_620 rfl dX6_look_146 ?_
        refine rg_iload (pc := 149) C 4 rfl dX6_look_149 ?_
        refine rg_iald (pc := 151) (j := (ra_ix v5)) C 148 kd_148 rfl g3 dX6_look_151 ?_
        refine rg_goto (pc := 152) (tgt := 164) C dX6_look_152 (by decide) ?_
        exact ih6 _ _ _ _ _ _ _ _ hf
set_option maxHeartbeats 4000000 in
theorem tX6_look_6 {Z : ra_Z} {r : Int32} {w1 : ra_W} (C : ra_C Z cX6_look 7 RX6 6 141) (hQ : ra_QI Z r w1) (hr : (zmt Z).sig.returnType = (some .int)) (k : Nat) (n : Nat) (ih7 : pX6_look_7 Z r w1 k n) : pX6_look_6 Z r w1 k (n + 1) := by
  intro v1 v2 v3 v4 v5 v6 s0 w hf
  rw [fX6_look_6] at hf
  refine rg_istore (pc := 164) (lv' := [(0, .ref ((zG Z).1 134)), (2, .int v2), (3, .int v3), (4, .int v4), (5, .int v5), (6, .int s0)]) C [1, 2, 3, 4, 5, 0] rfl (by decide) dX6_look_164 ?_
  refine rg_iload (pc := 166) C 5 rfl dX6_look_166 ?_
  refine rg_iload (pc := 168) C 3 rfl dX6_look_168 ?_
  refine rg_icmp_ge (pc := 170) (tgt := 178) C dX6_look_170 (by decide) (fun c1 => ?_) (fun c1 => ?_)
  · replace hf := ra_t hf c1
    refine rg_iload_n (pc := 178) C 2 rfl rfl dX6_look_178 ?_
    refine rg_sub [0, 1, 3, 4, 5] rfl ?_
    exact ih7 _ _ _ _ _ _ _ _ hf
  · replace hf := ra_f hf c1
    refine rg_iload (pc := 173) C 4 rfl dX6_look_173 ?_
    refine rg_goto (pc := 175) (tgt := 179) C dX6_look_175 (by decide) ?_
    refine rg_sub [0, 1, 3, 4, 5] rfl ?_
    exact ih7 _ _ _ _ _ _ _ _ hf
set_option maxHeartbeats 4000000 in
theorem tX6_look_7 {Z : ra_Z} {r : Int32} {w1 : ra_W} (C : ra_C Z cX6_look 7 RX6 6 141) (hQ : ra_QI Z r w1) (hr : (zmt Z).sig.returnType = (some .int)) (k : Nat) (n : Nat) (ih8 : pX6_look_8 Z r w1 k n) : pX6_look_7 Z r w1 k (n + 1) := by
  intro v1 v2 v3 v4 v5 v6 s0 w hf
  rw [fX6_look_7] at hf
  refine rg_istore_n (pc := 179) (lv' := [(0, .ref ((zG Z).1 134)), (2, .int v2), (3, .int s0), (4, .int v4), (5, .int v5), (6, .int v6)]) C [1, 2, 0, 3, 4, 5] rfl rfl (by decide) dX6_look_179 ?_
  refine rg_iload (pc := 180) C 5 rfl dX6_look_180 ?_
  refine rg_iload (pc := 182) C 3 rfl dX6_look_182 ?_
  refine rg_icmp_ge (pc := 184) (tgt := 192) C dX6_look_184 (by decide) (fun c1 => ?_) (fun c1 => ?_)
  · replace hf := ra_t hf c1
    refine rg_iload (pc := 192) C 3 rfl dX6_look_192 ?_
    refine rg_sub [0, 1, 2, 4] rfl ?_
    exact ih8 _ _ _ _ _ _ _ _ hf
  · replace hf := ra_f hf c1
    refine rg_iload (pc := 187) C 5 rfl dX6_look_187 ?_
    refine rg_goto (pc := 189) (tgt := 194) C dX6_look_189 (by decide) ?_
    refine rg_sub [0, 1, 2, 4] rfl ?_
    exact ih8 _ _ _ _ _ _ _ _ hf
set_option maxHeartbeats 4000000 in
theorem tX6_look_8 {Z : ra_Z} {r : Int32} {w1 : ra_W} (C : ra_C Z cX6_look 7 RX6 6 141) (hQ : ra_QI Z r w1) (hr : (zmt Z).sig.returnType = (some .int)) (k : Nat) (n : Nat) (ih5 : pX6_look_5 Z r w1 k n) : pX6_look_8 Z r w1 k (n + 1) := by
  intro v1 v2 v3 v4 v5 v6 s0 w hf
  rw [fX6_look_8] at hf
  refine rg_istore (pc := 194) (lv' := [(0, .ref ((zG Z).1 134)), (2, .int v2), (3, .int v3), (4, .int s0), (5, .int v5)]) C [1, 2, 3, 0, 4] rfl (by decide) dX6_look_194 ?_
  refine rg_iinc (pc := 196) (v := (v5 + 1)) (lv' := [(0, .ref ((zG Z).1 134)), (2, .int v2), (3, .int v3), (4, .int s0), (5, .int (v5 + 1))]) C 4 rfl [1, 2, 3, 4, 0] (ra_ii (by decide)) rfl (by decide) dX6_look_196 ?_
  refine rg_goto (pc := 199) (tgt := 114) C dX6_look_199 (by decide) ?_
  exact ih5 _ _ _ _ _ _ _ _ hf
theorem tX6_look {Z : ra_Z} {r : Int32} {w1 : ra_W} (C : ra_C Z cX6_look 7 RX6 6 141) (hQ : ra_QI Z r w1) (hr : (zmt Z).sig.returnType = (some .int)) (k : Nat) : ∀ n : Nat, pX6_look_0 Z r w1 k n ∧ pX6_look_1 Z r w1 k n ∧ pX6_look_2 Z r w1 k n ∧ pX6_look_3 Z r w1 k n ∧ pX6_look_4 Z r w1 k n ∧ pX6_look_5 Z r w1 k n ∧ pX6_look_6 Z r w1 k n ∧ pX6_look_7 Z r w1 k n ∧ pX6_look_8 Z r w1 k n := by
  intro n
  induction n with
  | zero => exact ⟨(fun _ _ _ _ _ _ _ _ h => by cases h), (fun _ _ _ _ _ _ _ _ h => by cases h), (fun _ _ _ _ _ _ _ _ h => by cases h), (fun _ _ _ _ _ _ _ _ h => by cases h), (fun _ _ _ _ _ _ _ _ h => by cases h), (fun _ _ _ _ _ _ _ _ h => by cases h), (fun _ _ _ _ _ _ _ _ h => by cases h), (fun _ _ _ _ _ _ _ _ h => by cases h), (fun _ _ _ _ _ _ _ _ h => by cases h)⟩
  | succ n ih =>
    obtain ⟨ih0, ih1, ih2, ih3, ih4, ih5, ih6, ih7, ih8⟩ := ih
    exact ⟨tX6_look_0 C hQ hr k n ih1, tX6_look_1 C hQ hr k n ih1 ih2, tX6_look_2 C hQ hr k n ih3 ih4 ih5, tX6_look_3 C hQ hr k n ih3 ih4, tX6_look_4 C hQ hr k n ih2, tX6_look_5 C hQ hr k n ih6, tX6_look_6 C hQ hr k n ih7, tX6_look_7 C hQ hr k n ih8, tX6_look_8 C hQ hr k n ih5⟩
theorem kX6_look (l : Launch) (G : ra_G) (hj : ra_inj G) (k : Nat) (v1 : Int32) (w : ra_W) (r : Int32) (w1 : ra_W) (h : FX6_look k v1 w = some (r, w1)) : ra_MI l G yX6_look cX6_look 7 (some .int) 6 141 [.ref (G.1 134), .int v1] w r w1 :=
  ra_entryI (own := RX6) (by decide) rfl (Nat.le_of_ble_eq_true rfl) hj (fun Z hl hG C hQ hr => by subst hl; subst hG; exact (tX6_look C hQ hr k k).1 _ _ _ _ _ _ _ _ h)
theorem ysX6_look : ra_YV yX6_look cX6_look 7 (some .int) 1 RX6 := ⟨⟨wd_7, wd_890, by decide, by decide, by decide⟩, wd_888, wd_889⟩
/-- TrunkRadioModel.keep -/
def fX6_keep (k : Nat) : Nat → Nat → Int32 → Int32 → ra_W → Option (Int32 × ra_W)
  | 0, _, _, _, _ => none
  | n + 1, L, v1, v2, w => match L with
    | 0 => ra_bind (FX6_in k v1 0 1 (ra_st w 134 0 0)) (fun r1 w2 => if r1 = 0 then (some ((-1), w2)) else (fX6_keep k n 1 v1 0 w2))
    | _ => if 41 ≤ v2 then (if ra_in v1 2 then some (((ra_st w 143 (ra_ix v1) 1) 139 2), (ra_st w 143 (ra_ix v1) 1)) else none) else (if ra_in v2 41 then if ra_in ((41 * v1) + v2) 82 then fX6_keep k n 1 v1 (v2 + 1) (ra_st w 142 (ra_ix ((41 * v1) + v2)) (w 139 (ra_ix v2))) else none else none)
theorem fX6_keep_0 (k : Nat) (n : Nat) (v1 : Int32) (v2 : Int32) (w : ra_W) : fX6_keep k (n + 1) 0 v1 v2 w = (ra_bind (FX6_in k v1 0 1 (ra_st w 134 0 0)) (fun r1 w2 => if r1 = 0 then (some ((-1), w2)) else (fX6_keep k n 1 v1 0 w2))) := rfl
theorem fX6_keep_1 (k : Nat) (n : Nat) (v1 : Int32) (v2 : Int32) (w : ra_W) : fX6_keep k (n + 1) 1 v1 v2 w = (if 41 ≤ v2 then (if ra_in v1 2 then some (((ra_st w 143 (ra_ix v1) 1) 139 2), (ra_st w 143 (ra_ix v1) 1)) else none) else (if ra_in v2 41 then if ra_in ((41 * v1) + v2) 82 then fX6_keep k n 1 v1 (v2 + 1) (ra_st w 142 (ra_ix ((41 * v1) + v2)) (w 139 (ra_ix v2))) else none else none)) := rfl
def FX6_keep (k : Nat) (v1 : Int32) (w : ra_W) : Option (Int32 × ra_W) := fX6_keep k k 0 v1 0 w
def pX6_keep_0 (Z : ra_Z) (r : Int32) (w1 : ra_W) (k : Nat) (n : Nat) : Prop := ∀ (v1 : Int32) (v2 : Int32) (w : ra_W), fX6_keep k n 0 v1 v2 w = some (r, w1) → ra_J Z 3 0 [(0, .ref ((zG Z).1 134)), (1, .int v1)] [] w
def pX6_keep_1 (Z : ra_Z) (r : Int32) (w1 : ra_W) (k : Nat) (n : Nat) : Prop := ∀ (v1 : Int32) (v2 : Int32) (w : ra_W), fX6_keep k n 1 v1 v2 w = some (r, w1) → ra_J Z 3 18 [(0, .ref ((zG Z).1 134)), (1, .int v1), (2, .int v2)] [] w
set_option maxHeartbeats 4000000 in
theorem tX6_keep_0 {Z : ra_Z} {r : Int32} {w1 : ra_W} (C : ra_C Z cX6_keep 3 RX6 1 22) (hQ : ra_QI Z r w1) (hr : (zmt Z).sig.returnType = (some .int)) (k : Nat) (n : Nat) (ih1 : pX6_keep_1 Z r w1 k n) : pX6_keep_0 Z r w1 k (n + 1) := by
  intro v1 v2 w hf
  rw [fX6_keep_0] at hf
  refine rg_aload_n (pc := 0) C 0 rfl rfl dX6_keep_0 ?_
  refine rg_iconst (pc := 1) (v := 0) C dX6_keep_1 (by decide) ?_
  refine rg_put (pc := 2) C 134 6 0 kd_134 (by decide) rfl inlX6 tyX6 tyX6_ok nmX6 (by decide) wd_596 rfl rfl rfl (Nat.le_of_ble_eq_true rfl) rfl dX6_keep_2 ?_
  refine rg_iload_n (pc := 5) C 1 rfl rfl dX6_keep_5 ?_
  refine rg_iconst (pc := 6) (v := 0) C dX6_keep_6 (by decide) ?_
  refine rg_iconst (pc := 7) (v := 1) C dX6_keep_7 (by decide) ?_
  obtain ⟨r1, w2, e3, hf⟩ := ra_bd hf
  refine rg_callSI (pc := 8) (As := [.int v1, .int 0, .int 1]) (st := []) C (kX6_in (zl Z) (zG Z) C.hj k _ _ _ _ _ _ e3) ysX6_in rfl wd_677 ⟨Nat.le_of_ble_eq_true rfl, Nat.le_of_ble_eq_true rfl⟩ rfl (Nat.le_of_ble_eq_true rfl) dX6_keep_8 ?_
  refine rg_if_ne (pc := 11) (tgt := 16) C dX6_keep_11 (by decide) (fun c4 => ?_) (fun c4 => ?_)
  · replace hf := ra_f hf c4
    refine rg_iconst (pc := 16) (v := 0) C dX6_keep_16 (by decide) ?_
    refine rg_istore_n (pc := 17) (lv' := [(0, .ref ((zG Z).1 134)), (1, .int v1), (2, .int 0)]) C [1, 2, 0] rfl rfl (by decide) dX6_keep_17 ?_
    exact ih1 _ _ _ hf
  · replace hf := ra_t hf c4
    refine rg_iconst (pc := 14) (v := (-1)) C dX6_keep_14 (by decide) ?_
    exact rg_iret (pc := 15) C hQ hr hf dX6_keep_15
set_option maxHeartbeats 4000000 in
theorem tX6_keep_1 {Z : ra_Z} {r : Int32} {w1 : ra_W} (C : ra_C Z cX6_keep 3 RX6 1 22) (hQ : ra_QI Z r w1) (hr : (zmt Z).sig.returnType = (some .int)) (k : Nat) (n : Nat) (ih1 : pX6_keep_1 Z r w1 k n) : pX6_keep_1 Z r w1 k (n + 1) := by
  intro v1 v2 w hf
  rw [fX6_keep_1] at hf
  refine rg_iload_n (pc := 18) C 2 rfl rfl dX6_keep_18 ?_
  refine rg_bipush (pc := 19) (v := 41) C dX6_keep_19 (by decide) ?_
  refine rg_icmp_ge (pc := 21) (tgt := 47) C dX6_keep_21 (by decide) (fun c1 => ?_) (fun c1 => ?_)
  · replace hf := ra_t hf c1
    refine rg_aload_n (pc := 47) C 0 rfl rfl dX6_keep_47 ?_
    refine rg_get (pc := 48) C 134 6 17 kd_134 (by decide) rfl inlX6 (by decide) wd_613 rfl dX6_keep_48 ?_
    refine rg_iload_n (pc := 51) C 1 rfl rfl dX6_keep_51 ?_
    refine rg_iconst (pc := 52) (v := 1) C dX6_keep_52 (by decide) ?_
    obtain ⟨g2, hf⟩ := ra_gd hf
    refine rg_zast (pc := 53) (j := (ra_ix v1)) C 143 kd_143 rfl (by decide) g2 dX6_keep_53 ?_
    refine rg_aload_n (pc := 54) C 0 rfl rfl dX6_keep_54 ?_
    refine rg_get (pc := 55) C 134 6 12 kd_134 (by decide) rfl inlX6 (by decide) wd_608 rfl dX6_keep_55 ?_
    refine rg_iconst (pc := 58) (v := 2) C dX6_keep_58 (by decide) ?_
    refine rg_iald (pc := 59) (j := 2) C 139 kd_139 (by decide) (by decide) dX6_keep_59 ?_
    exact rg_iret (pc := 60) C hQ hr hf dX6_keep_60
  · replace hf := ra_f hf c1
    refine rg_aload_n (pc := 24) C 0 rfl rfl dX6_keep_24 ?_
    refine rg_get (pc := 25) C 134 6 16 kd_134 (by decide) rfl inlX6 (by decide) wd_612 rfl dX6_keep_25 ?_
    refine rg_bipush (pc := 28) (v := 41) C dX6_keep_28 (by decide) ?_
    refine rg_iload_n (pc := 30) C 1 rfl rfl dX6_keep_30 ?_
    refine rg_imul (pc := 31) C dX6_keep_31 ?_
    refine rg_iload_n (pc := 32) C 2 rfl rfl dX6_keep_32 ?_
    refine rg_iadd (pc := 33) C dX6_keep_33 ?_
    refine rg_aload_n (pc := 34) C 0 rfl rfl dX6_keep_34 ?_
    refine rg_get (pc := 35) C 134 6 12 kd_134 (by decide) rfl inlX6 (by decide) wd_608 rfl dX6_keep_35 ?_
    refine rg_iload_n (pc := 38) C 2 rfl rfl dX6_keep_38 ?_
    obtain ⟨g3, hf⟩ := ra_gd hf
    refine rg_iald (pc := 39) (j := (ra_ix v2)) C 139 kd_139 rfl g3 dX6_keep_39 ?_
    obtain ⟨g4, hf⟩ := ra_gd hf
    refine rg_iast (pc := 40) (j := (ra_ix ((41 * v1) + v2))) C 142 kd_142 rfl g4 dX6_keep_40 ?_
    refine rg_iinc (pc := 41) (v := (v2 + 1)) (lv' := [(0, .ref ((zG Z).1 134)), (1, .int v1), (2, .int (v2 + 1))]) C 2 rfl [1, 2, 0] (ra_ii (by decide)) rfl (by decide) dX6_keep_41 ?_
    refine rg_goto (pc := 44) (tgt := 18) C dX6_keep_44 (by decide) ?_
    exact ih1 _ _ _ hf
theorem tX6_keep {Z : ra_Z} {r : Int32} {w1 : ra_W} (C : ra_C Z cX6_keep 3 RX6 1 22) (hQ : ra_QI Z r w1) (hr : (zmt Z).sig.returnType = (some .int)) (k : Nat) : ∀ n : Nat, pX6_keep_0 Z r w1 k n ∧ pX6_keep_1 Z r w1 k n := by
  intro n
  induction n with
  | zero => exact ⟨(fun _ _ _ h => by cases h), (fun _ _ _ h => by cases h)⟩
  | succ n ih =>
    obtain ⟨ih0, ih1⟩ := ih
    exact ⟨tX6_keep_0 C hQ hr k n ih1, tX6_keep_1 C hQ hr k n ih1⟩
theorem kX6_keep (l : Launch) (G : ra_G) (hj : ra_inj G) (k : Nat) (v1 : Int32) (w : ra_W) (r : Int32) (w1 : ra_W) (h : FX6_keep k v1 w = some (r, w1)) : ra_MI l G yX6_keep cX6_keep 3 (some .int) 1 22 [.ref (G.1 134), .int v1] w r w1 :=
  ra_entryI (own := RX6) (by decide) rfl (Nat.le_of_ble_eq_true rfl) hj (fun Z hl hG C hQ hr => by subst hl; subst hG; exact (tX6_keep C hQ hr k k).1 _ _ _ h)
theorem ysX6_keep : ra_YV yX6_keep cX6_keep 3 (some .int) 1 RX6 := ⟨⟨wd_7, wd_894, by decide, by decide, by decide⟩, wd_892, wd_893⟩
/-- TrunkRadioModel.back -/
def fX6_back (k : Nat) : Nat → Nat → Int32 → Int32 → ra_W → Option (Int32 × ra_W)
  | 0, _, _, _, _ => none
  | n + 1, L, v1, v2, w => match L with
    | 0 => ra_bind (FX6_in k v1 0 1 (ra_st w 134 0 0)) (fun r1 w2 => if r1 = 0 then (some ((-1), w2)) else (if ra_in v1 2 then if (w2 143 (ra_ix v1)) = 0 then (some ((-2), w2)) else (fX6_back k n 1 v1 0 w2) else none))
    | _ => if 41 ≤ v2 then (some (((ra_st w 134 15 0) 139 2), (ra_st w 134 15 0))) else (if ra_in ((41 * v1) + v2) 82 then if ra_in v2 41 then fX6_back k n 1 v1 (v2 + 1) (ra_st w 139 (ra_ix v2) (w 142 (ra_ix ((41 * v1) + v2)))) else none else none)
theorem fX6_back_0 (k : Nat) (n : Nat) (v1 : Int32) (v2 : Int32) (w : ra_W) : fX6_back k (n + 1) 0 v1 v2 w = (ra_bind (FX6_in k v1 0 1 (ra_st w 134 0 0)) (fun r1 w2 => if r1 = 0 then (some ((-1), w2)) else (if ra_in v1 2 then if (w2 143 (ra_ix v1)) = 0 then (some ((-2), w2)) else (fX6_back k n 1 v1 0 w2) else none))) := rfl
theorem fX6_back_1 (k : Nat) (n : Nat) (v1 : Int32) (v2 : Int32) (w : ra_W) : fX6_back k (n + 1) 1 v1 v2 w = (if 41 ≤ v2 then (some (((ra_st w 134 15 0) 139 2), (ra_st w 134 15 0))) else (if ra_in ((41 * v1) + v2) 82 then if ra_in v2 41 then fX6_back k n 1 v1 (v2 + 1) (ra_st w 139 (ra_ix v2) (w 142 (ra_ix ((41 * v1) + v2)))) else none else none)) := rfl
def FX6_back (k : Nat) (v1 : Int32) (w : ra_W) : Option (Int32 × ra_W) := fX6_back k k 0 v1 0 w
def pX6_back_0 (Z : ra_Z) (r : Int32) (w1 : ra_W) (k : Nat) (n : Nat) : Prop := ∀ (v1 : Int32) (v2 : Int32) (w : ra_W), fX6_back k n 0 v1 v2 w = some (r, w1) → ra_J Z 3 0 [(0, .ref ((zG Z).1 134)), (1, .int v1)] [] w
def pX6_back_1 (Z : ra_Z) (r : Int32) (w1 : ra_W) (k : Nat) (n : Nat) : Prop := ∀ (v1 : Int32) (v2 : Int32) (w : ra_W), fX6_back k n 1 v1 v2 w = some (r, w1) → ra_J Z 3 30 [(0, .ref ((zG Z).1 134)), (1, .int v1), (2, .int v2)] [] w
set_option maxHeartbeats 4000000 in
theorem tX6_back_0 {Z : ra_Z} {r : Int32} {w1 : ra_W} (C : ra_C Z cX6_back 3 RX6 1 22) (hQ : ra_QI Z r w1) (hr : (zmt Z).sig.returnType = (some .int)) (k : Nat) (n : Nat) (ih1 : pX6_back_1 Z r w1 k n) : pX6_back_0 Z r w1 k (n + 1) := by
  intro v1 v2 w hf
  rw [fX6_back_0] at hf
  refine rg_aload_n (pc := 0) C 0 rfl rfl dX6_back_0 ?_
  refine rg_iconst (pc := 1) (v := 0) C dX6_back_1 (by decide) ?_
  refine rg_put (pc := 2) C 134 6 0 kd_134 (by decide) rfl inlX6 tyX6 tyX6_ok nmX6 (by decide) wd_596 rfl rfl rfl (Nat.le_of_ble_eq_true rfl) rfl dX6_back_2 ?_
  refine rg_iload_n (pc := 5) C 1 rfl rfl dX6_back_5 ?_
  refine rg_iconst (pc := 6) (v := 0) C dX6_back_6 (by decide) ?_
  refine rg_iconst (pc := 7) (v := 1) C dX6_back_7 (by decide) ?_
  obtain ⟨r1, w2, e3, hf⟩ := ra_bd hf
  refine rg_callSI (pc := 8) (As := [.int v1, .int 0, .int 1]) (st := []) C (kX6_in (zl Z) (zG Z) C.hj k _ _ _ _ _ _ e3) ysX6_in rfl wd_677 ⟨Nat.le_of_ble_eq_true rfl, Nat.le_of_ble_eq_true rfl⟩ rfl (Nat.le_of_ble_eq_true rfl) dX6_back_8 ?_
  refine rg_if_ne (pc := 11) (tgt := 16) C dX6_back_11 (by decide) (fun c4 => ?_) (fun c4 => ?_)
  · replace hf := ra_f hf c4
    refine rg_aload_n (pc := 16) C 0 rfl rfl dX6_back_16 ?_
    refine rg_get (pc := 17) C 134 6 17 kd_134 (by decide) rfl inlX6 (by decide) wd_613 rfl dX6_back_17 ?_
    refine rg_iload_n (pc := 20) C 1 rfl rfl dX6_back_20 ?_
    obtain ⟨g5, hf⟩ := ra_gd hf
    refine rg_zald (pc := 21) (j := (ra_ix v1)) C 143 kd_143 rfl g5 dX6_back_21 ?_
    refine rg_if_ne (pc := 22) (tgt := 28) C dX6_back_22 (by decide) (fun c6 => ?_) (fun c6 => ?_)
    · replace hf := ra_f hf c6
      refine rg_iconst (pc := 28) (v := 0) C dX6_back_28 (by decide) ?_
      refine rg_istore_n (pc := 29) (lv' := [(0, .ref ((zG Z).1 134)), (1, .int v1), (2, .int 0)]) C [1, 2, 0] rfl rfl (by decide) dX6_back_29 ?_
      exact ih1 _ _ _ hf
    · replace hf := ra_t hf c6
      refine rg_bipush (pc := 25) (v := (-2)) C dX6_back_25 (by decide) ?_
      exact rg_iret (pc := 27) C hQ hr hf dX6_back_27
  · replace hf := ra_t hf c4
    refine rg_iconst (pc := 14) (v := (-1)) C dX6_back_14 (by decide) ?_
    exact rg_iret (pc := 15) C hQ hr hf dX6_back_15
set_option maxHeartbeats 4000000 in
theorem tX6_back_1 {Z : ra_Z} {r : Int32} {w1 : ra_W} (C : ra_C Z cX6_back 3 RX6 1 22) (hQ : ra_QI Z r w1) (hr : (zmt Z).sig.returnType = (some .int)) (k : Nat) (n : Nat) (ih1 : pX6_back_1 Z r w1 k n) : pX6_back_1 Z r w1 k (n + 1) := by
  intro v1 v2 w hf
  rw [fX6_back_1] at hf
  refine rg_iload_n (pc := 30) C 2 rfl rfl dX6_back_30 ?_
  refine rg_bipush (pc := 31) (v := 41) C dX6_back_31 (by decide) ?_
  refine rg_icmp_ge (pc := 33) (tgt := 59) C dX6_back_33 (by decide) (fun c1 => ?_) (fun c1 => ?_)
  · replace hf := ra_t hf c1
    refine rg_aload_n (pc := 59) C 0 rfl rfl dX6_back_59 ?_
    refine rg_iconst (pc := 60) (v := 0) C dX6_back_60 (by decide) ?_
    refine rg_put (pc := 61) C 134 6 15 kd_134 (by decide) rfl inlX6 tyX6 tyX6_ok nmX6 (by decide) wd_611 rfl rfl rfl (Nat.le_of_ble_eq_true rfl) rfl dX6_back_61 ?_
    refine rg_aload_n (pc := 64) C 0 rfl rfl dX6_back_64 ?_
    refine rg_get (pc := 65) C 134 6 12 kd_134 (by decide) rfl inlX6 (by decide) wd_608 rfl dX6_back_65 ?_
    refine rg_iconst (pc := 68) (v := 2) C dX6_back_68 (by decide) ?_
    refine rg_iald (pc := 69) (j := 2) C 139 kd_139 (by decide) (by decide) dX6_back_69 ?_
    exact rg_iret (pc := 70) C hQ hr hf dX6_back_70
  · replace hf := ra_f hf c1
    refine rg_aload_n (pc := 36) C 0 rfl rfl dX6_back_36 ?_
    refine rg_get (pc := 37) C 134 6 12 kd_134 (by decide) rfl inlX6 (by decide) wd_608 rfl dX6_back_37 ?_
    refine rg_iload_n (pc := 40) C 2 rfl rfl dX6_back_40 ?_
    refine rg_aload_n (pc := 41) C 0 rfl rfl dX6_back_41 ?_
    refine rg_get (pc := 42) C 134 6 16 kd_134 (by decide) rfl inlX6 (by decide) wd_612 rfl dX6_back_42 ?_
    refine rg_bipush (pc := 45) (v := 41) C dX6_back_45 (by decide) ?_
    refine rg_iload_n (pc := 47) C 1 rfl rfl dX6_back_47 ?_
    refine rg_imul (pc := 48) C dX6_back_48 ?_
    refine rg_iload_n (pc := 49) C 2 rfl rfl dX6_back_49 ?_
    refine rg_iadd (pc := 50) C dX6_back_50 ?_
    obtain ⟨g2, hf⟩ := ra_gd hf
    refine rg_iald (pc := 51) (j := (ra_ix ((41 * v1) + v2))) C 142 kd_142 rfl g2 dX6_back_51 ?_
    obtain ⟨g3, hf⟩ := ra_gd hf
    refine rg_iast (pc := 52) (j := (ra_ix v2)) C 139 kd_139 rfl g3 dX6_back_52 ?_
    refine rg_iinc (pc := 53) (v := (v2 + 1)) (lv' := [(0, .ref ((zG Z).1 134)), (1, .int v1), (2, .int (v2 + 1))]) C 2 rfl [1, 2, 0] (ra_ii (by decide)) rfl (by decide) dX6_back_53 ?_
    refine rg_goto (pc := 56) (tgt := 30) C dX6_back_56 (by decide) ?_
    exact ih1 _ _ _ hf
theorem tX6_back {Z : ra_Z} {r : Int32} {w1 : ra_W} (C : ra_C Z cX6_back 3 RX6 1 22) (hQ : ra_QI Z r w1) (hr : (zmt Z).sig.returnType = (some .int)) (k : Nat) : ∀ n : Nat, pX6_back_0 Z r w1 k n ∧ pX6_back_1 Z r w1 k n := by
  intro n
  induction n with
  | zero => exact ⟨(fun _ _ _ h => by cases h), (fun _ _ _ h => by cases h)⟩
  | succ n ih =>
    obtain ⟨ih0, ih1⟩ := ih
    exact ⟨tX6_back_0 C hQ hr k n ih1, tX6_back_1 C hQ hr k n ih1⟩
theorem kX6_back (l : Launch) (G : ra_G) (hj : ra_inj G) (k : Nat) (v1 : Int32) (w : ra_W) (r : Int32) (w1 : ra_W) (h : FX6_back k v1 w = some (r, w1)) : ra_MI l G yX6_back cX6_back 3 (some .int) 1 22 [.ref (G.1 134), .int v1] w r w1 :=
  ra_entryI (own := RX6) (by decide) rfl (Nat.le_of_ble_eq_true rfl) hj (fun Z hl hG C hQ hr => by subst hl; subst hG; exact (tX6_back C hQ hr k k).1 _ _ _ h)
theorem ysX6_back : ra_YV yX6_back cX6_back 3 (some .int) 1 RX6 := ⟨⟨wd_7, wd_898, by decide, by decide, by decide⟩, wd_896, wd_897⟩
/-- TrunkRadioModel.count -/
def fX6_count (k : Nat) : Nat → Nat → Int32 → ra_W → Option (Int32 × ra_W)
  | 0, _, _, _ => none
  | n + 1, L, v1, w => match L with
    | _ => ra_bind (FX6_in k v1 0 10 (ra_st w 134 0 0)) (fun r1 w2 => if r1 = 0 then (some ((-1), w2)) else (if 3 ≤ v1 then (if 7 ≤ v1 then (ra_bind (FX6_lines k 139 w2) (fun _ w8 => if v1 = 7 then (some ((w8 134 22), w8)) else (if v1 = 8 then (some ((w8 134 20), w8)) else (if v1 = 9 then (some ((w8 134 2), w8)) else (some ((w8 134 15), w8)))))) else (if ra_in ((2 + v1) - 3) 41 then some ((w2 139 (ra_ix ((2 + v1) - 3))), w2) else none)) else (if ra_in v1 19 then some ((w2 136 (ra_ix v1)), w2) else none)))
theorem fX6_count_0 (k : Nat) (n : Nat) (v1 : Int32) (w : ra_W) : fX6_count k (n + 1) 0 v1 w = (ra_bind (FX6_in k v1 0 10 (ra_st w 134 0 0)) (fun r1 w2 => if r1 = 0 then (some ((-1), w2)) else (if 3 ≤ v1 then (if 7 ≤ v1 then (ra_bind (FX6_lines k 139 w2) (fun _ w8 => if v1 = 7 then (some ((w8 134 22), w8)) else (if v1 = 8 then (some ((w8 134 20), w8)) else (if v1 = 9 then (some ((w8 134 2), w8)) else (some ((w8 134 15), w8)))))) else (if ra_in ((2 + v1) - 3) 41 then some ((w2 139 (ra_ix ((2 + v1) - 3))), w2) else none)) else (if ra_in v1 19 then some ((w2 136 (ra_ix v1)), w2) else none)))) := rfl
def FX6_count (k : Nat) (v1 : Int32) (w : ra_W) : Option (Int32 × ra_W) := fX6_count k k 0 v1 w
def pX6_count_0 (Z : ra_Z) (r : Int32) (w1 : ra_W) (k : Nat) (n : Nat) : Prop := ∀ (v1 : Int32) (w : ra_W), fX6_count k n 0 v1 w = some (r, w1) → ra_J Z 2 0 [(0, .ref ((zG Z).1 134)), (1, .int v1)] [] w
set_option maxHeartbeats 4000000 in
theorem tX6_count_0 {Z : ra_Z} {r : Int32} {w1 : ra_W} (C : ra_C Z cX6_count 2 RX6 2 48) (hQ : ra_QI Z r w1) (hr : (zmt Z).sig.returnType = (some .int)) (k : Nat) (n : Nat) : pX6_count_0 Z r w1 k (n + 1) := by
  intro v1 w hf
  rw [fX6_count_0] at hf
  refine rg_aload_n (pc := 0) C 0 rfl rfl dX6_count_0 ?_
  refine rg_iconst (pc := 1) (v := 0) C dX6_count_1 (by decide) ?_
  refine rg_put (pc := 2) C 134 6 0 kd_134 (by decide) rfl inlX6 tyX6 tyX6_ok nmX6 (by decide) wd_596 rfl rfl rfl (Nat.le_of_ble_eq_true rfl) rfl dX6_count_2 ?_
  refine rg_iload_n (pc := 5) C 1 rfl rfl dX6_count_5 ?_
  refine rg_iconst (pc := 6) (v := 0) C dX6_count_6 (by decide) ?_
  refine rg_bipush (pc := 7) (v := 10) C dX6_count_7 (by decide) ?_
  obtain ⟨r1, w2, e3, hf⟩ := ra_bd hf
  refine rg_callSI (pc := 9) (As := [.int v1, .int 0, .int 10]) (st := []) C (kX6_in (zl Z) (zG Z) C.hj k _ _ _ _ _ _ e3) ysX6_in rfl wd_677 ⟨Nat.le_of_ble_eq_true rfl, Nat.le_of_ble_eq_true rfl⟩ rfl (Nat.le_of_ble_eq_true rfl) dX6_count_9 ?_
  refine rg_if_ne (pc := 12) (tgt := 17) C dX6_count_12 (by decide) (fun c4 => ?_) (fun c4 => ?_)
  · replace hf := ra_f hf c4
    refine rg_iload_n (pc := 17) C 1 rfl rfl dX6_count_17 ?_
    refine rg_iconst (pc := 18) (v := 3) C dX6_count_18 (by decide) ?_
    refine rg_icmp_ge (pc := 19) (tgt := 29) C dX6_count_19 (by decide) (fun c5 => ?_) (fun c5 => ?_)
    · replace hf := ra_t hf c5
      refine rg_iload_n (pc := 29) C 1 rfl rfl dX6_count_29 ?_
      refine rg_bipush (pc := 30) (v := 7) C dX6_count_30 (by decide) ?_
      refine rg_icmp_ge (pc := 32) (tgt := 46) C dX6_count_32 (by decide) (fun c6 => ?_) (fun c6 => ?_)
      · replace hf := ra_t hf c6
        refine rg_aload_n (pc := 46) C 0 rfl rfl dX6_count_46 ?_
        refine rg_aload_n (pc := 47) C 0 rfl rfl dX6_count_47 ?_
        refine rg_get (pc := 48) C 134 6 12 kd_134 (by decide) rfl inlX6 (by decide) wd_608 rfl dX6_count_48 ?_
        obtain ⟨r7, w8, e9, hf⟩ := ra_bd hf
        refine rg_callVV (pc := 51) (As := [.ref ((zG Z).1 139)]) (st := []) C (kX6_lines (zl Z) (zG Z) C.hj k 139 kd_139 _ _ _ e9) kd_134 (by decide) rfl ysX6_lines rfl wd_753 ⟨Nat.le_of_ble_eq_true rfl, Nat.le_of_ble_eq_true rfl⟩ rfl (Nat.le_of_ble_eq_true rfl) dX6_count_51 ?_
        refine rg_iload_n (pc := 54) C 1 rfl rfl dX6_count_54 ?_
        refine rg_bipush (pc := 55) (v := 7) C dX6_count_55 (by decide) ?_
        refine rg_icmp_ne (pc := 57) (tgt := 67) C dX6_count_57 (by decide) (fun c10 => ?_) (fun c10 => ?_)
        · replace hf := ra_f hf c10
          refine rg_iload_n (pc := 67) C 1 rfl rfl dX6_count_67 ?_
          refine rg_bipush (pc := 68) (v := 8) C dX6_count_68 (by decide) ?_
          refine rg_icmp_ne (pc := 70) (tgt := 80) C dX6_count_70 (by decide) (fun c11 => ?_) (fun c11 => ?_)
          · replace hf := ra_f hf c11
            refine rg_iload_n (pc := 80) C 1 rfl rfl dX6_count_80 ?_
            refine rg_bipush (pc := 81) (v := 9) C dX6_count_81 (by decide) ?_
            refine rg_icmp_ne (pc := 83) (tgt := 93) C dX6_count_83 (by decide) (fun c12 => ?_) (fun c12 => ?_)
            · replace hf := ra_f hf c12
              refine rg_aload_n (pc := 93) C 0 rfl rfl dX6_count_93 ?_
              refine rg_get (pc := 94) C 134 6 15 kd_134 (by decide) rfl inlX6 (by decide) wd_611 rfl dX6_count_94 ?_
              exact rg_iret (pc := 97) C hQ hr hf dX6_count_97
            · replace hf := ra_t hf c12
              refine rg_aload_n (pc := 86) C 0 rfl rfl dX6_count_86 ?_
              refine rg_get (pc := 87) C 134 6 2 kd_134 (by decide) rfl inlX6 (by decide) wd_598 rfl dX6_count_87 ?_
              refine rg_goto (pc := 90) (tgt := 97) C dX6_count_90 (by decide) ?_
              exact rg_iret (pc := 97) C hQ hr hf dX6_count_97
          · replace hf := ra_t hf c11
            refine rg_aload_n (pc := 73) C 0 rfl rfl dX6_count_73 ?_
            refine rg_get (pc := 74) C 134 6 20 kd_134 (by decide) rfl inlX6 (by decide) wd_616 rfl dX6_count_74 ?_
            refine rg_goto (pc := 77) (tgt := 97) C dX6_count_77 (by decide) ?_
            exact rg_iret (pc := 97) C hQ hr hf dX6_count_97
        · replace hf := ra_t hf c10
          refine rg_aload_n (pc := 60) C 0 rfl rfl dX6_count_60 ?_
          refine rg_get (pc := 61) C 134 6 22 kd_134 (by decide) rfl inlX6 (by decide) wd_618 rfl dX6_count_61 ?_
          refine rg_goto (pc := 64) (tgt := 97) C dX6_count_64 (by decide) ?_
          exact rg_iret (pc := 97) C hQ hr hf dX6_count_97
      · replace hf := ra_f hf c6
        refine rg_aload_n (pc := 35) C 0 rfl rfl dX6_count_35 ?_
        refine rg_get (pc := 36) C 134 6 12 kd_134 (by decide) rfl inlX6 (by decide) wd_608 rfl dX6_count_36 ?_
        refine rg_iconst (pc := 39) (v := 2) C dX6_count_39 (by decide) ?_
        refine rg_iload_n (pc := 40) C 1 rfl rfl dX6_count_40 ?_
        refine rg_iadd (pc := 41) C dX6_count_41 ?_
        refine rg_iconst (pc := 42) (v := 3) C dX6_count_42 (by decide) ?_
        refine rg_isub (pc := 43) C dX6_count_43 ?_
        obtain ⟨g13, hf⟩ := ra_gd hf
        refine rg_iald (pc := 44) (j := (ra_ix ((2 + v1) - 3))) C 139 kd_139 rfl g13 dX6_count_44 ?_
        exact rg_iret (pc := 45) C hQ hr hf dX6_count_45
    · replace hf := ra_f hf c5
      refine rg_aload_n (pc := 22) C 0 rfl rfl dX6_count_22 ?_
      refine rg_get (pc := 23) C 134 6 9 kd_134 (by decide) rfl inlX6 (by decide) wd_605 rfl dX6_count_23 ?_
      refine rg_iload_n (pc := 26) C 1 rfl rfl dX6_count_26 ?_
      obtain ⟨g14, hf⟩ := ra_gd hf
      refine rg_iald (pc := 27) (j := (ra_ix v1)) C 136 kd_136 rfl g14 dX6_count_27 ?_
      exact rg_iret (pc := 28) C hQ hr hf dX6_count_28
  · replace hf := ra_t hf c4
    refine rg_iconst (pc := 15) (v := (-1)) C dX6_count_15 (by decide) ?_
    exact rg_iret (pc := 16) C hQ hr hf dX6_count_16
theorem tX6_count {Z : ra_Z} {r : Int32} {w1 : ra_W} (C : ra_C Z cX6_count 2 RX6 2 48) (hQ : ra_QI Z r w1) (hr : (zmt Z).sig.returnType = (some .int)) (k : Nat) : ∀ n : Nat, pX6_count_0 Z r w1 k n := by
  intro n
  induction n with
  | zero => exact (fun _ _ h => by cases h)
  | succ n ih => exact tX6_count_0 C hQ hr k n
theorem kX6_count (l : Launch) (G : ra_G) (hj : ra_inj G) (k : Nat) (v1 : Int32) (w : ra_W) (r : Int32) (w1 : ra_W) (h : FX6_count k v1 w = some (r, w1)) : ra_MI l G yX6_count cX6_count 2 (some .int) 2 48 [.ref (G.1 134), .int v1] w r w1 :=
  ra_entryI (own := RX6) (by decide) rfl (Nat.le_of_ble_eq_true rfl) hj (fun Z hl hG C hQ hr => by subst hl; subst hG; exact (tX6_count C hQ hr k k) _ _ h)
theorem ysX6_count : ra_YV yX6_count cX6_count 2 (some .int) 1 RX6 := ⟨⟨wd_7, wd_902, by decide, by decide, by decide⟩, wd_900, wd_901⟩
