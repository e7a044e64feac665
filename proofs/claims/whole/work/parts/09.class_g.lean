def rr_X9_seek_24 (fu : Nat) (self : Int32 → Int32 → Int32 → ZT_9 → Option (ZT_9)) (y3 : Int32) (y4 : Int32) (u1 : ZT_9) : Option (ZT_9) := (rr_X7_judge fu y4 y3 u1.2.2.2.2.2.2.2.2.1 u1.2.2.2.2.2.2.1).bind (fun q7 => some (u1.1, u1.2.1, u1.2.2.1, u1.2.2.2.1, u1.2.2.2.2.1, u1.2.2.2.2.2.1, u1.2.2.2.2.2.2.1, u1.2.2.2.2.2.2.2.1, q7, u1.2.2.2.2.2.2.2.2.2))
def rr_X9_seek_239 (fu : Nat) (self : Int32 → Int32 → Int32 → ZT_9 → Option (ZT_9)) (rec59 : Int32 → Int32 → Int32 → Int32 → Int32 → ZT_9 → Option (ZT_9)) (y1 : Int32) (y2 : Int32) (y3 : Int32) (y4 : Int32) (y5 : Int32) (u1 : ZT_9) : Option (ZT_9) := lt_ (α := Int32) (y5 + (1 : Int32)) (fun z28 => rec59 y1 y2 y3 y4 z28 u1)
def rr_X9_seek_207 (fu : Nat) (self : Int32 → Int32 → Int32 → ZT_9 → Option (ZT_9)) (rec59 : Int32 → Int32 → Int32 → Int32 → Int32 → ZT_9 → Option (ZT_9)) (y1 : Int32) (y2 : Int32) (y3 : Int32) (y4 : Int32) (y5 : Int32) (y6 : Int32) (y7 : Int64) (y9 : Int64) (w0 : Int32) (w1 : Int32) (w2 : Int32) (u1 : ZT_9) : Option (ZT_9) := (self w2 w1 w0 u1).bind (fun q25 => ck_ q25.2.2.2.2.2.2.2.2.1.1 8 (ck_ y6 8 (rr_X9_seek_239 fu self rec59 y1 y2 y3 y4 y5 (q25.1, q25.2.1, q25.2.2.1, q25.2.2.2.1, q25.2.2.2.2.1, q25.2.2.2.2.2.1, ((vp_updL (vp_updL q25.2.2.2.2.2.2.1.1 q25.2.2.2.2.2.2.2.2.1.1.toNatClampNeg y7) y6.toNatClampNeg y9), q25.2.2.2.2.2.2.1.2), q25.2.2.2.2.2.2.2))))
def rr_X9_seek_59_b (fu : Nat) (self : Int32 → Int32 → Int32 → ZT_9 → Option (ZT_9)) (rec59 : Int32 → Int32 → Int32 → Int32 → Int32 → ZT_9 → Option (ZT_9)) (y1 : Int32) (y2 : Int32) (y3 : Int32) (y4 : Int32) (y5 : Int32) (u1 : ZT_9) : Option (ZT_9) := (if y4 ≤ y5 then some u1 else (if u1.2.2.2.2.2.2.2.2.1.2.2.1 ≤ u1.2.2.2.2.2.2.2.2.1.2.1 then some u1 else (if ((y2 >>> (y5 &&& 31)) &&& (1 : Int32)) = (0 : Int32) then ck_ y5 6 (lt_ (α := Int32) (u1.1.2.2.2.2.2.1 y5.toNatClampNeg) (fun z12 => ck_ u1.2.2.2.2.2.2.2.2.1.1 8 (lt_ (α := Int64) (u1.2.2.2.2.2.2.1.1 u1.2.2.2.2.2.2.2.2.1.1.toNatClampNeg) (fun z15 => ck_ z12 8 (lt_ (α := Int64) (u1.2.2.2.2.2.2.1.1 z12.toNatClampNeg) (fun z18 => ck_ y5 6 ((rr_X1_meetsEvenly fu u1.2.2.2.2.2.2.2.2.1.1 z12 (u1.1.2.2.2.2.2.2 y5.toNatClampNeg) u1.2.2.2.2.2.2.1 u1.2.2.2.1).bind (fun q21 => ck_ y1 6 ((if q21.1 = (0 : Int32) then rr_X9_seek_207 fu self rec59 y1 y2 y3 y4 y5 z12 z15 z18 y3 (y2 ||| ((1 : Int32) <<< (y5 &&& 31))) (y1 + (1 : Int32)) (u1.1, u1.2.1, u1.2.2.1, u1.2.2.2.1, u1.2.2.2.2.1, u1.2.2.2.2.2.1, q21.2, u1.2.2.2.2.2.2.2.1, (u1.2.2.2.2.2.2.2.2.1.1, u1.2.2.2.2.2.2.2.2.1.2.1, u1.2.2.2.2.2.2.2.2.1.2.2.1, (upd u1.2.2.2.2.2.2.2.2.1.2.2.2.1 y1.toNatClampNeg y5), u1.2.2.2.2.2.2.2.2.1.2.2.2.2), u1.2.2.2.2.2.2.2.2.2) else rr_X9_seek_207 fu self rec59 y1 y2 y3 y4 y5 z12 z15 z18 (y3 + (1 : Int32)) (y2 ||| ((1 : Int32) <<< (y5 &&& 31))) (y1 + (1 : Int32)) (u1.1, u1.2.1, u1.2.2.1, u1.2.2.2.1, u1.2.2.2.2.1, u1.2.2.2.2.2.1, q21.2, u1.2.2.2.2.2.2.2.1, (u1.2.2.2.2.2.2.2.2.1.1, u1.2.2.2.2.2.2.2.2.1.2.1, u1.2.2.2.2.2.2.2.2.1.2.2.1, (upd u1.2.2.2.2.2.2.2.2.1.2.2.2.1 y1.toNatClampNeg y5), u1.2.2.2.2.2.2.2.2.1.2.2.2.2), u1.2.2.2.2.2.2.2.2.2))))))))))) else rr_X9_seek_239 fu self rec59 y1 y2 y3 y4 y5 u1)))
def rr_X9_seek_59 (fu : Nat) (self : Int32 → Int32 → Int32 → ZT_9 → Option (ZT_9)) (n : Nat) : Int32 → Int32 → Int32 → Int32 → Int32 → ZT_9 → Option (ZT_9) := lp_ (fun _ _ _ _ _ _ => none) (rr_X9_seek_59_b fu self) n
def rr_X9_seek_b (fu : Nat) (self : Int32 → Int32 → Int32 → ZT_9 → Option (ZT_9)) (x1 : Int32) (x2 : Int32) (x3 : Int32) (s1 : ZT_9) : Option (ZT_9) := (if s1.1.2.2.2.1 ≤ x1 then rr_X9_seek_24 fu self x3 s1.1.2.2.2.1 s1 else (if x1 < (6 : Int32) then (rr_X7_mayGetBetter fu ((x3 + s1.1.2.2.2.1) - x1) s1.2.2.2.2.2.2.2.2.1).bind (fun q4 => (if q4 = (0 : Int32) then some s1 else rr_X9_seek_59 fu self fu x1 x2 x3 s1.1.2.2.2.1 (0 : Int32) s1)) else rr_X9_seek_24 fu self x3 s1.1.2.2.2.1 s1))
def rr_X9_seek (fu : Nat) (d : Nat) : Int32 → Int32 → Int32 → ZT_9 → Option (ZT_9) := lp_ (fun _ _ _ _ => none) (rr_X9_seek_b fu) d
set_option maxRecDepth 100000 in
theorem sb_9__0c47 (a1 : Nat → Nat) (k1 : Nat → ClassId) (s1 : ZT_9) : List.Perm (zc_9 a1 k1 s1) ((zc_7 (sh_ a1 47) (sh_ k1 47) s1.2.2.2.2.2.2.2.2.1) ++ ([(a1 0, .inr (9, [.ref (a1 1), .ref (a1 16), .int s1.2.2.1, .ref (a1 31), .int s1.2.2.2.2.1, .ref (a1 37), .ref (a1 43), .ref (a1 45), .ref (a1 47), .ref (a1 50), .ref (a1 54), .ref (a1 56), .ref (a1 62), .ref (a1 66)]))] ++ (zc_8 (sh_ a1 1) (sh_ k1 1) s1.1 ++ (zc_8 (sh_ a1 16) (sh_ k1 16) s1.2.1 ++ (zc_4 (sh_ a1 31) (sh_ k1 31) s1.2.2.2.1 ++ (zc_4 (sh_ a1 37) (sh_ k1 37) s1.2.2.2.2.2.1 ++ (zc_1 (sh_ a1 43) (sh_ k1 43) s1.2.2.2.2.2.2.1 ++ (zc_1 (sh_ a1 45) (sh_ k1 45) s1.2.2.2.2.2.2.2.1 ++ (([] : va_W) ++ (zc_3 (sh_ a1 50) (sh_ k1 50) s1.2.2.2.2.2.2.2.2.2.1 ++ (zc_6 (sh_ a1 54) (sh_ k1 54) s1.2.2.2.2.2.2.2.2.2.2.1 ++ (zc_2 (sh_ a1 56) (sh_ k1 56) 10 s1.2.2.2.2.2.2.2.2.2.2.2.1 ++ (zc_0 (sh_ a1 62) (sh_ k1 62) 24 s1.2.2.2.2.2.2.2.2.2.2.2.2.1 ++ zc_5 (sh_ a1 66) (sh_ k1 66) s1.2.2.2.2.2.2.2.2.2.2.2.2.2))))))))))))) := (pu_r ([(a1 0, .inr (9, [.ref (a1 1), .ref (a1 16), .int s1.2.2.1, .ref (a1 31), .int s1.2.2.2.2.1, .ref (a1 37), .ref (a1 43), .ref (a1 45), .ref (a1 47), .ref (a1 50), .ref (a1 54), .ref (a1 56), .ref (a1 62), .ref (a1 66)]))]) (pu_r (zc_8 (sh_ a1 1) (sh_ k1 1) s1.1) (pu_r (zc_8 (sh_ a1 16) (sh_ k1 16) s1.2.1) (pu_r (zc_4 (sh_ a1 31) (sh_ k1 31) s1.2.2.2.1) (pu_r (zc_4 (sh_ a1 37) (sh_ k1 37) s1.2.2.2.2.2.1) (pu_r (zc_1 (sh_ a1 43) (sh_ k1 43) s1.2.2.2.2.2.2.1) (pu_r (zc_1 (sh_ a1 45) (sh_ k1 45) s1.2.2.2.2.2.2.2.1) (pu_l ((zc_3 (sh_ a1 50) (sh_ k1 50) s1.2.2.2.2.2.2.2.2.2.1 ++ (zc_6 (sh_ a1 54) (sh_ k1 54) s1.2.2.2.2.2.2.2.2.2.2.1 ++ (zc_2 (sh_ a1 56) (sh_ k1 56) 10 s1.2.2.2.2.2.2.2.2.2.2.2.1 ++ (zc_0 (sh_ a1 62) (sh_ k1 62) 24 s1.2.2.2.2.2.2.2.2.2.2.2.2.1 ++ zc_5 (sh_ a1 66) (sh_ k1 66) s1.2.2.2.2.2.2.2.2.2.2.2.2.2))))) (pu_1 (zc_7 (sh_ a1 47) (sh_ k1 47) s1.2.2.2.2.2.2.2.2.1))))))))))
set_option maxRecDepth 100000 in
theorem jo_9__0c47__ (a1 : Nat → Nat) (k1 : Nat → ClassId) (s1 : ZT_9) : List.Perm (zc_9 a1 k1 s1) ((zc_7 (sh_ a1 47) (sh_ k1 47) s1.2.2.2.2.2.2.2.2.1) ++ ([(a1 0, .inr (9, [.ref (a1 1), .ref (a1 16), .int s1.2.2.1, .ref (a1 31), .int s1.2.2.2.2.1, .ref (a1 37), .ref (a1 43), .ref (a1 45), .ref (a1 47), .ref (a1 50), .ref (a1 54), .ref (a1 56), .ref (a1 62), .ref (a1 66)]))] ++ (zc_8 (sh_ a1 1) (sh_ k1 1) s1.1 ++ (zc_8 (sh_ a1 16) (sh_ k1 16) s1.2.1 ++ (zc_4 (sh_ a1 31) (sh_ k1 31) s1.2.2.2.1 ++ (zc_4 (sh_ a1 37) (sh_ k1 37) s1.2.2.2.2.2.1 ++ (zc_1 (sh_ a1 43) (sh_ k1 43) s1.2.2.2.2.2.2.1 ++ (zc_1 (sh_ a1 45) (sh_ k1 45) s1.2.2.2.2.2.2.2.1 ++ (([] : va_W) ++ (zc_3 (sh_ a1 50) (sh_ k1 50) s1.2.2.2.2.2.2.2.2.2.1 ++ (zc_6 (sh_ a1 54) (sh_ k1 54) s1.2.2.2.2.2.2.2.2.2.2.1 ++ (zc_2 (sh_ a1 56) (sh_ k1 56) 10 s1.2.2.2.2.2.2.2.2.2.2.2.1 ++ (zc_0 (sh_ a1 62) (sh_ k1 62) 24 s1.2.2.2.2.2.2.2.2.2.2.2.2.1 ++ zc_5 (sh_ a1 66) (sh_ k1 66) s1.2.2.2.2.2.2.2.2.2.2.2.2.2))))))))))))) := (pu_r ([(a1 0, .inr (9, [.ref (a1 1), .ref (a1 16), .int s1.2.2.1, .ref (a1 31), .int s1.2.2.2.2.1, .ref (a1 37), .ref (a1 43), .ref (a1 45), .ref (a1 47), .ref (a1 50), .ref (a1 54), .ref (a1 56), .ref (a1 62), .ref (a1 66)]))]) (pu_r (zc_8 (sh_ a1 1) (sh_ k1 1) s1.1) (pu_r (zc_8 (sh_ a1 16) (sh_ k1 16) s1.2.1) (pu_r (zc_4 (sh_ a1 31) (sh_ k1 31) s1.2.2.2.1) (pu_r (zc_4 (sh_ a1 37) (sh_ k1 37) s1.2.2.2.2.2.1) (pu_r (zc_1 (sh_ a1 43) (sh_ k1 43) s1.2.2.2.2.2.2.1) (pu_r (zc_1 (sh_ a1 45) (sh_ k1 45) s1.2.2.2.2.2.2.2.1) (pu_l ((zc_3 (sh_ a1 50) (sh_ k1 50) s1.2.2.2.2.2.2.2.2.2.1 ++ (zc_6 (sh_ a1 54) (sh_ k1 54) s1.2.2.2.2.2.2.2.2.2.2.1 ++ (zc_2 (sh_ a1 56) (sh_ k1 56) 10 s1.2.2.2.2.2.2.2.2.2.2.2.1 ++ (zc_0 (sh_ a1 62) (sh_ k1 62) 24 s1.2.2.2.2.2.2.2.2.2.2.2.2.1 ++ zc_5 (sh_ a1 66) (sh_ k1 66) s1.2.2.2.2.2.2.2.2.2.2.2.2.2))))) (pu_1 (zc_7 (sh_ a1 47) (sh_ k1 47) s1.2.2.2.2.2.2.2.2.1))))))))))
set_option maxRecDepth 100000 in
theorem sb_9__0c47_0c43 (a1 : Nat → Nat) (k1 : Nat → ClassId) (s1 : ZT_9) : List.Perm (zc_9 a1 k1 s1) ((zc_7 (sh_ a1 47) (sh_ k1 47) s1.2.2.2.2.2.2.2.2.1 ++ zc_1 (sh_ a1 43) (sh_ k1 43) s1.2.2.2.2.2.2.1) ++ ([(a1 0, .inr (9, [.ref (a1 1), .ref (a1 16), .int s1.2.2.1, .ref (a1 31), .int s1.2.2.2.2.1, .ref (a1 37), .ref (a1 43), .ref (a1 45), .ref (a1 47), .ref (a1 50), .ref (a1 54), .ref (a1 56), .ref (a1 62), .ref (a1 66)]))] ++ (zc_8 (sh_ a1 1) (sh_ k1 1) s1.1 ++ (zc_8 (sh_ a1 16) (sh_ k1 16) s1.2.1 ++ (zc_4 (sh_ a1 31) (sh_ k1 31) s1.2.2.2.1 ++ (zc_4 (sh_ a1 37) (sh_ k1 37) s1.2.2.2.2.2.1 ++ (([] : va_W) ++ (zc_1 (sh_ a1 45) (sh_ k1 45) s1.2.2.2.2.2.2.2.1 ++ (([] : va_W) ++ (zc_3 (sh_ a1 50) (sh_ k1 50) s1.2.2.2.2.2.2.2.2.2.1 ++ (zc_6 (sh_ a1 54) (sh_ k1 54) s1.2.2.2.2.2.2.2.2.2.2.1 ++ (zc_2 (sh_ a1 56) (sh_ k1 56) 10 s1.2.2.2.2.2.2.2.2.2.2.2.1 ++ (zc_0 (sh_ a1 62) (sh_ k1 62) 24 s1.2.2.2.2.2.2.2.2.2.2.2.2.1 ++ zc_5 (sh_ a1 66) (sh_ k1 66) s1.2.2.2.2.2.2.2.2.2.2.2.2.2))))))))))))) := (pu_2 (pu_r ([(a1 0, .inr (9, [.ref (a1 1), .ref (a1 16), .int s1.2.2.1, .ref (a1 31), .int s1.2.2.2.2.1, .ref (a1 37), .ref (a1 43), .ref (a1 45), .ref (a1 47), .ref (a1 50), .ref (a1 54), .ref (a1 56), .ref (a1 62), .ref (a1 66)]))]) (pu_r (zc_8 (sh_ a1 1) (sh_ k1 1) s1.1) (pu_r (zc_8 (sh_ a1 16) (sh_ k1 16) s1.2.1) (pu_r (zc_4 (sh_ a1 31) (sh_ k1 31) s1.2.2.2.1) (pu_r (zc_4 (sh_ a1 37) (sh_ k1 37) s1.2.2.2.2.2.1) (pu_r (zc_1 (sh_ a1 43) (sh_ k1 43) s1.2.2.2.2.2.2.1) (pu_r (zc_1 (sh_ a1 45) (sh_ k1 45) s1.2.2.2.2.2.2.2.1) (pu_l ((zc_3 (sh_ a1 50) (sh_ k1 50) s1.2.2.2.2.2.2.2.2.2.1 ++ (zc_6 (sh_ a1 54) (sh_ k1 54) s1.2.2.2.2.2.2.2.2.2.2.1 ++ (zc_2 (sh_ a1 56) (sh_ k1 56) 10 s1.2.2.2.2.2.2.2.2.2.2.2.1 ++ (zc_0 (sh_ a1 62) (sh_ k1 62) 24 s1.2.2.2.2.2.2.2.2.2.2.2.2.1 ++ zc_5 (sh_ a1 66) (sh_ k1 66) s1.2.2.2.2.2.2.2.2.2.2.2.2.2))))) (pu_1 (zc_7 (sh_ a1 47) (sh_ k1 47) s1.2.2.2.2.2.2.2.2.1)))))))))) (pu_r ([(a1 0, .inr (9, [.ref (a1 1), .ref (a1 16), .int s1.2.2.1, .ref (a1 31), .int s1.2.2.2.2.1, .ref (a1 37), .ref (a1 43), .ref (a1 45), .ref (a1 47), .ref (a1 50), .ref (a1 54), .ref (a1 56), .ref (a1 62), .ref (a1 66)]))]) (pu_r (zc_8 (sh_ a1 1) (sh_ k1 1) s1.1) (pu_r (zc_8 (sh_ a1 16) (sh_ k1 16) s1.2.1) (pu_r (zc_4 (sh_ a1 31) (sh_ k1 31) s1.2.2.2.1) (pu_r (zc_4 (sh_ a1 37) (sh_ k1 37) s1.2.2.2.2.2.1) (pu_l ((zc_1 (sh_ a1 45) (sh_ k1 45) s1.2.2.2.2.2.2.2.1 ++ (([] : va_W) ++ (zc_3 (sh_ a1 50) (sh_ k1 50) s1.2.2.2.2.2.2.2.2.2.1 ++ (zc_6 (sh_ a1 54) (sh_ k1 54) s1.2.2.2.2.2.2.2.2.2.2.1 ++ (zc_2 (sh_ a1 56) (sh_ k1 56) 10 s1.2.2.2.2.2.2.2.2.2.2.2.1 ++ (zc_0 (sh_ a1 62) (sh_ k1 62) 24 s1.2.2.2.2.2.2.2.2.2.2.2.2.1 ++ zc_5 (sh_ a1 66) (sh_ k1 66) s1.2.2.2.2.2.2.2.2.2.2.2.2.2))))))) (pu_1 (zc_1 (sh_ a1 43) (sh_ k1 43) s1.2.2.2.2.2.2.1)))))))))
set_option maxRecDepth 100000 in
theorem jo_9__0c47_0c43__0 (a1 : Nat → Nat) (k1 : Nat → ClassId) (s1 : ZT_9) (u1 : ZT_7) : List.Perm (zc_9 a1 k1 (s1.1, s1.2.1, s1.2.2.1, s1.2.2.2.1, s1.2.2.2.2.1, s1.2.2.2.2.2.1, s1.2.2.2.2.2.2.1, s1.2.2.2.2.2.2.2.1, u1, s1.2.2.2.2.2.2.2.2.2)) ((zc_7 (sh_ a1 47) (sh_ k1 47) u1 ++ zc_1 (sh_ a1 43) (sh_ k1 43) s1.2.2.2.2.2.2.1) ++ ([(a1 0, .inr (9, [.ref (a1 1), .ref (a1 16), .int s1.2.2.1, .ref (a1 31), .int s1.2.2.2.2.1, .ref (a1 37), .ref (a1 43), .ref (a1 45), .ref (a1 47), .ref (a1 50), .ref (a1 54), .ref (a1 56), .ref (a1 62), .ref (a1 66)]))] ++ (zc_8 (sh_ a1 1) (sh_ k1 1) s1.1 ++ (zc_8 (sh_ a1 16) (sh_ k1 16) s1.2.1 ++ (zc_4 (sh_ a1 31) (sh_ k1 31) s1.2.2.2.1 ++ (zc_4 (sh_ a1 37) (sh_ k1 37) s1.2.2.2.2.2.1 ++ (([] : va_W) ++ (zc_1 (sh_ a1 45) (sh_ k1 45) s1.2.2.2.2.2.2.2.1 ++ (([] : va_W) ++ (zc_3 (sh_ a1 50) (sh_ k1 50) s1.2.2.2.2.2.2.2.2.2.1 ++ (zc_6 (sh_ a1 54) (sh_ k1 54) s1.2.2.2.2.2.2.2.2.2.2.1 ++ (zc_2 (sh_ a1 56) (sh_ k1 56) 10 s1.2.2.2.2.2.2.2.2.2.2.2.1 ++ (zc_0 (sh_ a1 62) (sh_ k1 62) 24 s1.2.2.2.2.2.2.2.2.2.2.2.2.1 ++ zc_5 (sh_ a1 66) (sh_ k1 66) s1.2.2.2.2.2.2.2.2.2.2.2.2.2))))))))))))) := (pu_2 (pu_r ([(a1 0, .inr (9, [.ref (a1 1), .ref (a1 16), .int s1.2.2.1, .ref (a1 31), .int s1.2.2.2.2.1, .ref (a1 37), .ref (a1 43), .ref (a1 45), .ref (a1 47), .ref (a1 50), .ref (a1 54), .ref (a1 56), .ref (a1 62), .ref (a1 66)]))]) (pu_r (zc_8 (sh_ a1 1) (sh_ k1 1) s1.1) (pu_r (zc_8 (sh_ a1 16) (sh_ k1 16) s1.2.1) (pu_r (zc_4 (sh_ a1 31) (sh_ k1 31) s1.2.2.2.1) (pu_r (zc_4 (sh_ a1 37) (sh_ k1 37) s1.2.2.2.2.2.1) (pu_r (zc_1 (sh_ a1 43) (sh_ k1 43) s1.2.2.2.2.2.2.1) (pu_r (zc_1 (sh_ a1 45) (sh_ k1 45) s1.2.2.2.2.2.2.2.1) (pu_l ((zc_3 (sh_ a1 50) (sh_ k1 50) s1.2.2.2.2.2.2.2.2.2.1 ++ (zc_6 (sh_ a1 54) (sh_ k1 54) s1.2.2.2.2.2.2.2.2.2.2.1 ++ (zc_2 (sh_ a1 56) (sh_ k1 56) 10 s1.2.2.2.2.2.2.2.2.2.2.2.1 ++ (zc_0 (sh_ a1 62) (sh_ k1 62) 24 s1.2.2.2.2.2.2.2.2.2.2.2.2.1 ++ zc_5 (sh_ a1 66) (sh_ k1 66) s1.2.2.2.2.2.2.2.2.2.2.2.2.2))))) (pu_1 (zc_7 (sh_ a1 47) (sh_ k1 47) u1)))))))))) (pu_r ([(a1 0, .inr (9, [.ref (a1 1), .ref (a1 16), .int s1.2.2.1, .ref (a1 31), .int s1.2.2.2.2.1, .ref (a1 37), .ref (a1 43), .ref (a1 45), .ref (a1 47), .ref (a1 50), .ref (a1 54), .ref (a1 56), .ref (a1 62), .ref (a1 66)]))]) (pu_r (zc_8 (sh_ a1 1) (sh_ k1 1) s1.1) (pu_r (zc_8 (sh_ a1 16) (sh_ k1 16) s1.2.1) (pu_r (zc_4 (sh_ a1 31) (sh_ k1 31) s1.2.2.2.1) (pu_r (zc_4 (sh_ a1 37) (sh_ k1 37) s1.2.2.2.2.2.1) (pu_l ((zc_1 (sh_ a1 45) (sh_ k1 45) s1.2.2.2.2.2.2.2.1 ++ (([] : va_W) ++ (zc_3 (sh_ a1 50) (sh_ k1 50) s1.2.2.2.2.2.2.2.2.2.1 ++ (zc_6 (sh_ a1 54) (sh_ k1 54) s1.2.2.2.2.2.2.2.2.2.2.1 ++ (zc_2 (sh_ a1 56) (sh_ k1 56) 10 s1.2.2.2.2.2.2.2.2.2.2.2.1 ++ (zc_0 (sh_ a1 62) (sh_ k1 62) 24 s1.2.2.2.2.2.2.2.2.2.2.2.2.1 ++ zc_5 (sh_ a1 66) (sh_ k1 66) s1.2.2.2.2.2.2.2.2.2.2.2.2.2))))))) (pu_1 (zc_1 (sh_ a1 43) (sh_ k1 43) s1.2.2.2.2.2.2.1)))))))))
set_option maxHeartbeats 4000000 in
set_option maxRecDepth 100000 in
theorem cc_X9_seek (l : Launch) (dC : Nat → ClassId) (dI : Nat → Nat → Nat) (fu : Nat) : ∀ (d : Nat) (a1 : Nat → Nat) (k1 : Nat → ClassId) (sz : Nat) (x1 : Int32) (x2 : Int32) (x3 : Int32) (s1 : ZT_9) (res : ZT_9) (hR : rr_X9_seek fu d x1 x2 x3 s1 = some res), Met l yX9_seek wsX9_seek ({ frames := 6 + d, cells := 0, slots := 0, locals := 143 + 31 * d } : Room) (PcF [.ref (a1 0), .int x1, .int x2, .int x3] sz (dC, dI) (zc_9 a1 k1 s1) (zt_9 k1)) (va_Qv (fun u : ZT_9 => res = u) (fun u t => at3_ (dC, dI) (zc_9 a1 k1 u) (zt_9 k1) (va_A (zc_9 a1 k1 s1) sz) t) (va_A (zc_9 a1 k1 s1) sz)) 0 0 (va_A (zc_9 a1 k1 s1) sz) := by
  intro d
  induction d with
  | zero => intros; rename_i hR; exact absurd hR (by intro h; cases h)
  | succ d ihd =>
  intro a1 k1 sz x1 x2 x3 s1 res hR
  replace hR : rr_X9_seek_b fu (rr_X9_seek fu d) x1 x2 x3 s1 = some res := hR
  refine Met.ofW (cc := cX9_seek) (maxL := 12) (ret := none) (by decide) rfl ?_
  intro p e s m args below meth c s₁ B hml hv
  obtain ⟨hav, hsz, hP, hK, hD0⟩ := hv
  have hx := B.exec
  have hb := B.bytes
  have hr := B.returns
  have hts := atoms_spec (ws := wsX9_seek) B.pre
  have hown : s.vm.findClass RX9 = some m.cls := findClass_of_methodNamed B.named
  have hlocks := B.notSynchronized
  have hin0 : ∀ w ∈ wsX00, w ∈ wsX9_seek := fun w h => List.mem_cons_of_mem _ (List.mem_append_left _ (List.mem_append_left _ (List.mem_append_left _ (List.mem_append_right _ h))))
  have hin1 : ∀ w ∈ wsX10, w ∈ wsX9_seek := fun w h => List.mem_cons_of_mem _ (List.mem_append_left _ (List.mem_append_right _ h))
  have hin7 : ∀ w ∈ wsX70, w ∈ wsX9_seek := fun w h => List.mem_cons_of_mem _ (List.mem_append_left _ (List.mem_append_left _ (List.mem_append_right _ h)))
  have hin8 : ∀ w ∈ wsX80, w ∈ wsX9_seek := fun w h => List.mem_cons_of_mem _ (List.mem_append_left _ (List.mem_append_left _ (List.mem_append_left _ (List.mem_append_left _ (List.mem_append_right _ h)))))
  have hin9 : ∀ w ∈ wsX90, w ∈ wsX9_seek := fun w h => List.mem_cons_of_mem _ (List.mem_append_left _ (List.mem_append_left _ (List.mem_append_left _ (List.mem_append_left _ (List.mem_append_left _ (List.mem_append_right _ h))))))
  subst hsz
  have hD := hD0.self (sz := s.heap.size)
  clear hD0
  generalize hAe : va_A (zc_9 a1 k1 s1) s.heap.size = A at hD ⊢
  have hA : ∀ q : Nat, s.heap.size ≤ q → A q := fun q h => by rw [← hAe]; exact Or.inr h
  have hS : va_S A s.heap s.heap [] := va_S.rf
  generalize hQe : MQ below _ args s 0 0 A = Q
  rw [show entryFrame m args 12 = F0 m 0 ((lg_sl ([.ref (a1 0), .int x1, .int x2, .int x3]) ++ List.replicate (12 - (lg_sl ([.ref (a1 0), .int x1, .int x2, .int x3])).length) Slot.unset).toArray) [] from by rw [hav]; exact lg_entry_eq m _ _]
  have hl := lv_entry ([.ref (a1 0), .int x1, .int x2, .int x3]) (n := 12) (Nat.le_of_ble_eq_true rfl)
  generalize (lg_sl ([.ref (a1 0), .int x1, .int x2, .int x3]) ++ List.replicate (12 - (lg_sl ([.ref (a1 0), .int x1, .int x2, .int x3])).length) Slot.unset).toArray = ls at hl ⊢
  have hl : lv_has ls 12 [(0, .ref (a1 0)), (1, .int x1), (2, .int x2), (3, .int x3)] := hl
  have hB24 : ∀ (y3 : Int32) (y4 : Int32) (u1 : ZT_9) (H : Heap) (locs : List Loc) (ls : Array Slot), va_P (dC, dI) vwCl (zc_9 a1 k1 u1) H → va_D A (zc_9 a1 k1 u1) → va_S A s.heap H locs → lv_has ls 12 [(0, .ref (a1 0)), (3, .int y3), (4, .int y4)] → rr_X9_seek_24 fu (rr_X9_seek fu d) y3 y4 u1 = some res → W p l e ({ frames := 6 + (d + 1), cells := 0, slots := 0, locals := 143 + 31 * (d + 1) } : Room) s m args below meth c H locs 0 0 Q (F0 m 24 ls []) := by
    intro  y3 y4 u1 H locs ls hP hD hS hl hR
    unfold rr_X9_seek_24 at hR
    refine lv_aload_n hx hb dX9_seek_24 rfl (lv_at hl 0 rfl) ?_
    refine va_get (D := (dC, dI)) (ci := 9) (v := .ref (a1 47)) (C := RX9) (T := TX9) (N := 14) hx hb hts hin9 hown hK hP 0 rfl rfl 8 (by decide) (hts (.fieldLink RX9 46 "OldestCoins" "tour" "LOldestCoins$Tour;") (List.mem_of_getElem? (i := 4) rfl)) (fun _ h9 => h9) rfl dX9_seek_25 ?_
    refine lv_aload_n hx hb dX9_seek_28 rfl (lv_at hl 0 rfl) ?_
    refine va_get (D := (dC, dI)) (ci := 9) (v := .ref (a1 43)) (C := RX9) (T := TX9) (N := 14) hx hb hts hin9 hown hK hP 0 rfl rfl 6 (by decide) (hts (.fieldLink RX9 36 "OldestCoins" "board" "LOldestCoins$Board;") (List.mem_of_getElem? (i := 5) rfl)) (fun _ h9 => h9) rfl dX9_seek_29 ?_
    refine lv_iload hx hb dX9_seek_32 (lv_at hl 2 rfl) ?_
    refine lv_iload_n hx hb dX9_seek_34 rfl (lv_at hl 1 rfl) ?_
    have hR0 := ob_ok hR
    clear hR
    obtain ⟨q7, hq7, hR⟩ := hR0
    refine va_callv (va_runV (As := [.ref (a1 43), .int y4, .int y3]) (rest := []) ⟨hx, hb, hml, hown, hts⟩ (cc_X7_judge l dC dI fu (sh_ a1 47) (sh_ a1 43) (sh_ k1 47) (sh_ k1 43) H.size y4 y3 u1.2.2.2.2.2.2.2.2.1 u1.2.2.2.2.2.2.1 q7 hq7) (cwV 3 hts gX9_seek_X7_judge rfl rfl rfl (by decide +kernel) ⟨by dsimp only; omega, by dsimp only; omega⟩) (pf_v (hK.sub (tys' := zt_7 (sh_ k1 47) ++ zt_1 (sh_ k1 43)) [34, 35, 32] rfl) (sub_P (sb_9__0c47_0c43 a1 k1 u1) hP) (sub_D (sb_9__0c47_0c43 a1 k1 u1) hD) 7 0 rfl rfl rfl) rfl rfl hl.1 rfl (lv_room (Nat.le_of_ble_eq_true rfl)) dX9_seek_35 ⟨Nat.le_refl _, Nat.le_refl _⟩) hS (fun q _ h => (sub_F (sb_9__0c47_0c43 a1 k1 u1) hD hS hA) q h) (sub_F (sb_9__0c47_0c43 a1 k1 u1) hD hS hA) (fun v7 t7 H7 locs7 ht7 hvm7 hw7 hB7 hz7 hk7 hS7 => ?_)
    subst hw7
    obtain ⟨hP7, hD7⟩ := jn_sub (sb_9__0c47_0c43 a1 k1 u1) (jo_9__0c47_0c43__0 a1 k1 u1 q7) rfl hP hD hk7 ht7 hB7
    have hP7 : va_P (dC, dI) vwCl (zc_9 a1 k1 (u1.1, u1.2.1, u1.2.2.1, u1.2.2.2.1, u1.2.2.2.2.1, u1.2.2.2.2.2.1, u1.2.2.2.2.2.2.1, u1.2.2.2.2.2.2.2.1, q7, u1.2.2.2.2.2.2.2.2.2)) H7 := hP7
    have hD7 : va_D A (zc_9 a1 k1 (u1.1, u1.2.1, u1.2.2.1, u1.2.2.2.1, u1.2.2.2.2.1, u1.2.2.2.2.2.1, u1.2.2.2.2.2.2.1, u1.2.2.2.2.2.2.2.1, q7, u1.2.2.2.2.2.2.2.2.2)) := hD7
    clear hP hD hS hB7 hk7 hvm7 hz7 ht7
    subst hQe
    exact W.vret hx hb hr (fun t ht hW => ⟨⟨(u1.1, u1.2.1, u1.2.2.1, u1.2.2.2.1, u1.2.2.2.2.1, u1.2.2.2.2.2.1, u1.2.2.2.2.2.2.1, u1.2.2.2.2.2.2.2.1, q7, u1.2.2.2.2.2.2.2.2.2), rfl, (Option.some.inj hR).symm, by rw [ht]; exact hP7, va_K.moved hW.alike hK, hD7⟩, hS7.F ht⟩) hS7.2.2 dX9_seek_38
  have hB239 : ∀ (rec59 : Int32 → Int32 → Int32 → Int32 → Int32 → ZT_9 → Option (ZT_9)) (hrec59 : ∀ (y1 : Int32) (y2 : Int32) (y3 : Int32) (y4 : Int32) (y5 : Int32) (u1 : ZT_9) (H : Heap) (locs : List Loc) (ls : Array Slot), va_P (dC, dI) vwCl (zc_9 a1 k1 u1) H → va_D A (zc_9 a1 k1 u1) → va_S A s.heap H locs → lv_has ls 12 [(0, .ref (a1 0)), (1, .int y1), (2, .int y2), (3, .int y3), (4, .int y4), (5, .int y5)] → rec59 y1 y2 y3 y4 y5 u1 = some res → W p l e ({ frames := 6 + (d + 1), cells := 0, slots := 0, locals := 143 + 31 * (d + 1) } : Room) s m args below meth c H locs 0 0 Q (F0 m 59 ls [])), ∀ (y1 : Int32) (y2 : Int32) (y3 : Int32) (y4 : Int32) (y5 : Int32) (u1 : ZT_9) (H : Heap) (locs : List Loc) (ls : Array Slot), va_P (dC, dI) vwCl (zc_9 a1 k1 u1) H → va_D A (zc_9 a1 k1 u1) → va_S A s.heap H locs → lv_has ls 12 [(0, .ref (a1 0)), (1, .int y1), (2, .int y2), (3, .int y3), (4, .int y4), (5, .int y5)] → rr_X9_seek_239 fu (rr_X9_seek fu d) rec59 y1 y2 y3 y4 y5 u1 = some res → W p l e ({ frames := 6 + (d + 1), cells := 0, slots := 0, locals := 143 + 31 * (d + 1) } : Room) s m args below meth c H locs 0 0 Q (F0 m 239 ls []) := by
    intro rec59 hrec59 y1 y2 y3 y4 y5 u1 H locs ls hP hD hS hl hR
    unfold rr_X9_seek_239 at hR
    obtain ⟨z28, ez28⟩ : ∃ y : Int32, y = (y5 + (1 : Int32)) := ⟨_, rfl⟩
    replace hR := lt_ok hR ez28
    refine lv_iinc (v := z28) (lv' := [(5, .int z28), (0, .ref (a1 0)), (1, .int y1), (2, .int y2), (3, .int y3), (4, .int y4)]) hx hb dX9_seek_239 hl (k := 5) rfl (by rw [ez28]; rfl) (by decide) rfl (fun ls28 hl28 => ?_)
    refine lv_goto (tgt := 59) hx hb dX9_seek_242 (by decide) ?_
    exact hrec59 y1 y2 y3 y4 z28 u1 H locs ls28 hP hD hS (lv_sub hl28 [1, 2, 3, 4, 5, 0] rfl) hR
  have hB207 : ∀ (rec59 : Int32 → Int32 → Int32 → Int32 → Int32 → ZT_9 → Option (ZT_9)) (hrec59 : ∀ (y1 : Int32) (y2 : Int32) (y3 : Int32) (y4 : Int32) (y5 : Int32) (u1 : ZT_9) (H : Heap) (locs : List Loc) (ls : Array Slot), va_P (dC, dI) vwCl (zc_9 a1 k1 u1) H → va_D A (zc_9 a1 k1 u1) → va_S A s.heap H locs → lv_has ls 12 [(0, .ref (a1 0)), (1, .int y1), (2, .int y2), (3, .int y3), (4, .int y4), (5, .int y5)] → rec59 y1 y2 y3 y4 y5 u1 = some res → W p l e ({ frames := 6 + (d + 1), cells := 0, slots := 0, locals := 143 + 31 * (d + 1) } : Room) s m args below meth c H locs 0 0 Q (F0 m 59 ls [])), ∀ (y1 : Int32) (y2 : Int32) (y3 : Int32) (y4 : Int32) (y5 : Int32) (y6 : Int32) (y7 : Int64) (y9 : Int64) (w0 : Int32) (w1 : Int32) (w2 : Int32) (u1 : ZT_9) (H : Heap) (locs : List Loc) (ls : Array Slot), va_P (dC, dI) vwCl (zc_9 a1 k1 u1) H → va_D A (zc_9 a1 k1 u1) → va_S A s.heap H locs → lv_has ls 12 [(0, .ref (a1 0)), (1, .int y1), (2, .int y2), (3, .int y3), (4, .int y4), (5, .int y5), (6, .int y6), (7, .long y7), (9, .long y9)] → rr_X9_seek_207 fu (rr_X9_seek fu d) rec59 y1 y2 y3 y4 y5 y6 y7 y9 w0 w1 w2 u1 = some res → W p l e ({ frames := 6 + (d + 1), cells := 0, slots := 0, locals := 143 + 31 * (d + 1) } : Room) s m args below meth c H locs 0 0 Q (F0 m 207 ls [.int w0, .int w1, .int w2, .ref (a1 0)]) := by
    intro rec59 hrec59 y1 y2 y3 y4 y5 y6 y7 y9 w0 w1 w2 u1 H locs ls hP hD hS hl hR
    unfold rr_X9_seek_207 at hR
    have hR0 := ob_ok hR
    clear hR
    obtain ⟨q25, hq25, hR⟩ := hR0
    refine va_callv (va_runV (As := [.int w2, .int w1, .int w0]) (rest := []) ⟨hx, hb, hml, hown, hts⟩ (ihd a1 k1 H.size w2 w1 w0 u1 q25 hq25) (cwV 3 hts gX9_seek_X9_seek rfl rfl rfl (by decide +kernel) ⟨by dsimp only; omega, by dsimp only; omega⟩) (pf_v hK hP hD 9 0 rfl rfl rfl) rfl rfl hl.1 rfl (lv_room (Nat.le_of_ble_eq_true rfl)) dX9_seek_207 ⟨Nat.le_refl _, Nat.le_refl _⟩) hS (fun q _ h => (fr_all hD hS hA) q h) (fr_all hD hS hA) (fun v25 t25 H25 locs25 ht25 hvm25 hw25 hB25 hz25 hk25 hS25 => ?_)
    subst hw25
    obtain ⟨hP25, hD25⟩ := jn_all hD hS hA ht25 hB25
    have hP25 : va_P (dC, dI) vwCl (zc_9 a1 k1 q25) H25 := hP25
    have hD25 : va_D A (zc_9 a1 k1 q25) := hD25
    clear hP hD hS hB25 hk25 hvm25 hz25 ht25
    refine lv_aload_n hx hb dX9_seek_210 rfl (lv_at hl 0 rfl) ?_
    refine va_get (D := (dC, dI)) (ci := 9) (v := .ref (a1 43)) (C := RX9) (T := TX9) (N := 14) hx hb hts hin9 hown hK hP25 0 rfl rfl 6 (by decide) (hts (.fieldLink RX9 36 "OldestCoins" "board" "LOldestCoins$Board;") (List.mem_of_getElem? (i := 5) rfl)) (fun _ h9 => h9) rfl dX9_seek_211 ?_
    refine va_get (D := (dC, dI)) (ci := 1) (v := .ref (a1 44)) (C := RX1) (T := TX1) (N := 5) hx hb hts hin1 hown hK hP25 43 rfl rfl 0 (by decide) (hts (.fieldLink RX9 138 "OldestCoins$Board" "had" "[J") (List.mem_of_getElem? (i := 9) rfl)) (fun _ h9 => h9) rfl dX9_seek_214 ?_
    refine lv_aload_n hx hb dX9_seek_217 rfl (lv_at hl 0 rfl) ?_
    refine va_get (D := (dC, dI)) (ci := 9) (v := .ref (a1 47)) (C := RX9) (T := TX9) (N := 14) hx hb hts hin9 hown hK hP25 0 rfl rfl 8 (by decide) (hts (.fieldLink RX9 46 "OldestCoins" "tour" "LOldestCoins$Tour;") (List.mem_of_getElem? (i := 4) rfl)) (fun _ h9 => h9) rfl dX9_seek_218 ?_
    refine va_get (D := (dC, dI)) (ci := 7) (v := .int q25.2.2.2.2.2.2.2.2.1.1) (C := RX7) (T := TX7) (N := 7) hx hb hts hin7 hown hK hP25 47 rfl rfl 0 (by decide) (hts (.fieldLink RX9 356 "OldestCoins$Tour" "purse" "I") (List.mem_of_getElem? (i := 10) rfl)) (fun _ h9 => h9) rfl dX9_seek_221 ?_
    refine lv_lload hx hb dX9_seek_224 (lv_at hl 7 rfl) ?_
    have i26 := (ck_ok hR).1
    replace hR := (ck_ok hR).2
    refine va_last (f := q25.2.2.2.2.2.2.1.1) hx hb hK hP25 hD25 hS25 44 32 rfl rfl i26 dX9_seek_226 (fun H26 locs26 hP26 hD26 hS26 => ?_)
    have hP26 : va_P (dC, dI) vwCl (zc_9 a1 k1 (q25.1, q25.2.1, q25.2.2.1, q25.2.2.2.1, q25.2.2.2.2.1, q25.2.2.2.2.2.1, ((vp_updL q25.2.2.2.2.2.2.1.1 q25.2.2.2.2.2.2.2.2.1.1.toNatClampNeg y7), q25.2.2.2.2.2.2.1.2), q25.2.2.2.2.2.2.2)) H26 := hP26
    have hD26 : va_D A (zc_9 a1 k1 (q25.1, q25.2.1, q25.2.2.1, q25.2.2.2.1, q25.2.2.2.2.1, q25.2.2.2.2.2.1, ((vp_updL q25.2.2.2.2.2.2.1.1 q25.2.2.2.2.2.2.2.2.1.1.toNatClampNeg y7), q25.2.2.2.2.2.2.1.2), q25.2.2.2.2.2.2.2)) := hD26
    clear hP25 hD25 hS25
    refine lv_aload_n hx hb dX9_seek_227 rfl (lv_at hl 0 rfl) ?_
    refine va_get (D := (dC, dI)) (ci := 9) (v := .ref (a1 43)) (C := RX9) (T := TX9) (N := 14) hx hb hts hin9 hown hK hP26 0 rfl rfl 6 (by decide) (hts (.fieldLink RX9 36 "OldestCoins" "board" "LOldestCoins$Board;") (List.mem_of_getElem? (i := 5) rfl)) (fun _ h9 => h9) rfl dX9_seek_228 ?_
    refine va_get (D := (dC, dI)) (ci := 1) (v := .ref (a1 44)) (C := RX1) (T := TX1) (N := 5) hx hb hts hin1 hown hK hP26 43 rfl rfl 0 (by decide) (hts (.fieldLink RX9 138 "OldestCoins$Board" "had" "[J") (List.mem_of_getElem? (i := 9) rfl)) (fun _ h9 => h9) rfl dX9_seek_231 ?_
    refine lv_iload hx hb dX9_seek_234 (lv_at hl 6 rfl) ?_
    refine lv_lload hx hb dX9_seek_236 (lv_at hl 8 rfl) ?_
    have i27 := (ck_ok hR).1
    replace hR := (ck_ok hR).2
    refine va_last (f := (vp_updL q25.2.2.2.2.2.2.1.1 q25.2.2.2.2.2.2.2.2.1.1.toNatClampNeg y7)) hx hb hK hP26 hD26 hS26 44 32 rfl rfl i27 dX9_seek_238 (fun H27 locs27 hP27 hD27 hS27 => ?_)
    have hP27 : va_P (dC, dI) vwCl (zc_9 a1 k1 (q25.1, q25.2.1, q25.2.2.1, q25.2.2.2.1, q25.2.2.2.2.1, q25.2.2.2.2.2.1, ((vp_updL (vp_updL q25.2.2.2.2.2.2.1.1 q25.2.2.2.2.2.2.2.2.1.1.toNatClampNeg y7) y6.toNatClampNeg y9), q25.2.2.2.2.2.2.1.2), q25.2.2.2.2.2.2.2)) H27 := hP27
    have hD27 : va_D A (zc_9 a1 k1 (q25.1, q25.2.1, q25.2.2.1, q25.2.2.2.1, q25.2.2.2.2.1, q25.2.2.2.2.2.1, ((vp_updL (vp_updL q25.2.2.2.2.2.2.1.1 q25.2.2.2.2.2.2.2.2.1.1.toNatClampNeg y7) y6.toNatClampNeg y9), q25.2.2.2.2.2.2.1.2), q25.2.2.2.2.2.2.2)) := hD27
    clear hP26 hD26 hS26
    exact hB239 rec59 hrec59 y1 y2 y3 y4 y5 (q25.1, q25.2.1, q25.2.2.1, q25.2.2.2.1, q25.2.2.2.2.1, q25.2.2.2.2.2.1, ((vp_updL (vp_updL q25.2.2.2.2.2.2.1.1 q25.2.2.2.2.2.2.2.2.1.1.toNatClampNeg y7) y6.toNatClampNeg y9), q25.2.2.2.2.2.2.1.2), q25.2.2.2.2.2.2.2) H27 locs27 ls hP27 hD27 hS27 (lv_sub hl [0, 1, 2, 3, 4, 5] rfl) hR
  have hB59 : ∀ (n : Nat), ∀ (y1 : Int32) (y2 : Int32) (y3 : Int32) (y4 : Int32) (y5 : Int32) (u1 : ZT_9) (H : Heap) (locs : List Loc) (ls : Array Slot), va_P (dC, dI) vwCl (zc_9 a1 k1 u1) H → va_D A (zc_9 a1 k1 u1) → va_S A s.heap H locs → lv_has ls 12 [(0, .ref (a1 0)), (1, .int y1), (2, .int y2), (3, .int y3), (4, .int y4), (5, .int y5)] → rr_X9_seek_59 fu (rr_X9_seek fu d) n y1 y2 y3 y4 y5 u1 = some res → W p l e ({ frames := 6 + (d + 1), cells := 0, slots := 0, locals := 143 + 31 * (d + 1) } : Room) s m args below meth c H locs 0 0 Q (F0 m 59 ls []) := by
    intro  n
    induction n with
    | zero => intro y1 y2 y3 y4 y5 u1 H locs ls hP hD hS hl hR; exact absurd hR (by intro h; cases h)
    | succ n ih =>
      intro y1 y2 y3 y4 y5 u1 H locs ls hP hD hS hl hR
      replace hR : rr_X9_seek_59_b fu (rr_X9_seek fu d) (rr_X9_seek_59 fu (rr_X9_seek fu d) n) y1 y2 y3 y4 y5 u1 = some res := hR
      unfold rr_X9_seek_59_b at hR
      refine lv_iload hx hb dX9_seek_59 (lv_at hl 5 rfl) ?_
      refine lv_iload hx hb dX9_seek_61 (lv_at hl 4 rfl) ?_
      refine lv_icmp_ge (tgt := 245) hx hb dX9_seek_63 (by decide) (fun c8 => ?_) (fun c8 => ?_)
      · replace hR := ifp_ hR c8
        subst hQe
        exact W.vret hx hb hr (fun t ht hW => ⟨⟨u1, rfl, (Option.some.inj hR).symm, by rw [ht]; exact hP, va_K.moved hW.alike hK, hD⟩, hS.F ht⟩) hS.2.2 dX9_seek_245
      · replace hR := ifn_ hR c8
        refine lv_aload_n hx hb dX9_seek_66 rfl (lv_at hl 0 rfl) ?_
        refine va_get (D := (dC, dI)) (ci := 9) (v := .ref (a1 47)) (C := RX9) (T := TX9) (N := 14) hx hb hts hin9 hown hK hP 0 rfl rfl 8 (by decide) (hts (.fieldLink RX9 46 "OldestCoins" "tour" "LOldestCoins$Tour;") (List.mem_of_getElem? (i := 4) rfl)) (fun _ h9 => h9) rfl dX9_seek_67 ?_
        refine va_get (D := (dC, dI)) (ci := 7) (v := .int u1.2.2.2.2.2.2.2.2.1.2.1) (C := RX7) (T := TX7) (N := 7) hx hb hts hin7 hown hK hP 47 rfl rfl 1 (by decide) (hts (.fieldLink RX9 252 "OldestCoins$Tour" "best" "I") (List.mem_of_getElem? (i := 6) rfl)) (fun _ h9 => h9) rfl dX9_seek_70 ?_
        refine lv_aload_n hx hb dX9_seek_73 rfl (lv_at hl 0 rfl) ?_
        refine va_get (D := (dC, dI)) (ci := 9) (v := .ref (a1 47)) (C := RX9) (T := TX9) (N := 14) hx hb hts hin9 hown hK hP 0 rfl rfl 8 (by decide) (hts (.fieldLink RX9 46 "OldestCoins" "tour" "LOldestCoins$Tour;") (List.mem_of_getElem? (i := 4) rfl)) (fun _ h9 => h9) rfl dX9_seek_74 ?_
        refine va_get (D := (dC, dI)) (ci := 7) (v := .int u1.2.2.2.2.2.2.2.2.1.2.2.1) (C := RX7) (T := TX7) (N := 7) hx hb hts hin7 hown hK hP 47 rfl rfl 2 (by decide) (hts (.fieldLink RX9 353 "OldestCoins$Tour" "enough" "I") (List.mem_of_getElem? (i := 7) rfl)) (fun _ h9 => h9) rfl dX9_seek_77 ?_
        refine lv_icmp_ge (tgt := 245) hx hb dX9_seek_80 (by decide) (fun c9 => ?_) (fun c9 => ?_)
        · replace hR := ifp_ hR c9
          subst hQe
          exact W.vret hx hb hr (fun t ht hW => ⟨⟨u1, rfl, (Option.some.inj hR).symm, by rw [ht]; exact hP, va_K.moved hW.alike hK, hD⟩, hS.F ht⟩) hS.2.2 dX9_seek_245
        · replace hR := ifn_ hR c9
          refine lv_iload_n hx hb dX9_seek_83 rfl (lv_at hl 2 rfl) ?_
          refine lv_iload hx hb dX9_seek_84 (lv_at hl 5 rfl) ?_
          refine lv_ishr hx hb dX9_seek_86 ?_
          refine lv_iconst (v := (1 : Int32)) hx hb dX9_seek_87 (by decide) ?_
          refine lv_iand hx hb dX9_seek_88 ?_
          refine lv_if_eq (tgt := 95) hx hb dX9_seek_89 (by decide) (fun c10 => ?_) (fun c10 => ?_)
          · replace hR := ifp_ hR c10
            refine lv_aload_n hx hb dX9_seek_95 rfl (lv_at hl 0 rfl) ?_
            refine va_get (D := (dC, dI)) (ci := 9) (v := .ref (a1 1)) (C := RX9) (T := TX9) (N := 14) hx hb hts hin9 hown hK hP 0 rfl rfl 0 (by decide) (hts (.fieldLink RX9 10 "OldestCoins" "town" "LOldestCoins$Town;") (List.mem_of_getElem? (i := 1) rfl)) (fun _ h9 => h9) rfl dX9_seek_96 ?_
            refine va_get (D := (dC, dI)) (ci := 8) (v := .ref (a1 12)) (C := RX8) (T := TX8) (N := 4) hx hb hts hin8 hown hK hP 1 rfl rfl 3 (by decide) (hts (.fieldLink RX9 198 "OldestCoins$Town" "errands" "LOldestCoins$Bills;") (List.mem_of_getElem? (i := 2) rfl)) (fun _ h9 => h9) rfl dX9_seek_99 ?_
            refine va_get (D := (dC, dI)) (ci := 0) (v := .ref (a1 14)) (C := RX0) (T := TX0) (N := 4) hx hb hts hin0 hown hK hP 12 rfl rfl 2 (by decide) (hts (.fieldLink RX9 336 "OldestCoins$Bills" "shop" "[I") (List.mem_of_getElem? (i := 8) rfl)) (fun _ h9 => h9) rfl dX9_seek_102 ?_
            refine lv_iload hx hb dX9_seek_105 (lv_at hl 5 rfl) ?_
            have i11 := (ck_ok hR).1
            replace hR := (ck_ok hR).2
            refine va_iald (f := u1.1.2.2.2.2.2.1) hx hb hK hP 14 9 rfl rfl i11 dX9_seek_107 ?_
            refine lv_topi (fun z12 ez12 => ?_)
            replace hR := lt_ok hR ez12
            refine lv_istore (lv' := [(6, .int z12), (0, .ref (a1 0)), (1, .int y1), (2, .int y2), (3, .int y3), (4, .int y4), (5, .int y5)]) hx hb dX9_seek_108 hl (by decide) rfl (fun ls13 hl13 => ?_)
            refine lv_aload_n hx hb dX9_seek_110 rfl (lv_at hl13 1 rfl) ?_
            refine va_get (D := (dC, dI)) (ci := 9) (v := .ref (a1 43)) (C := RX9) (T := TX9) (N := 14) hx hb hts hin9 hown hK hP 0 rfl rfl 6 (by decide) (hts (.fieldLink RX9 36 "OldestCoins" "board" "LOldestCoins$Board;") (List.mem_of_getElem? (i := 5) rfl)) (fun _ h9 => h9) rfl dX9_seek_111 ?_
            refine va_get (D := (dC, dI)) (ci := 1) (v := .ref (a1 44)) (C := RX1) (T := TX1) (N := 5) hx hb hts hin1 hown hK hP 43 rfl rfl 0 (by decide) (hts (.fieldLink RX9 138 "OldestCoins$Board" "had" "[J") (List.mem_of_getElem? (i := 9) rfl)) (fun _ h9 => h9) rfl dX9_seek_114 ?_
            refine lv_aload_n hx hb dX9_seek_117 rfl (lv_at hl13 1 rfl) ?_
            refine va_get (D := (dC, dI)) (ci := 9) (v := .ref (a1 47)) (C := RX9) (T := TX9) (N := 14) hx hb hts hin9 hown hK hP 0 rfl rfl 8 (by decide) (hts (.fieldLink RX9 46 "OldestCoins" "tour" "LOldestCoins$Tour;") (List.mem_of_getElem? (i := 4) rfl)) (fun _ h9 => h9) rfl dX9_seek_118 ?_
            refine va_get (D := (dC, dI)) (ci := 7) (v := .int u1.2.2.2.2.2.2.2.2.1.1) (C := RX7) (T := TX7) (N := 7) hx hb hts hin7 hown hK hP 47 rfl rfl 0 (by decide) (hts (.fieldLink RX9 356 "OldestCoins$Tour" "purse" "I") (List.mem_of_getElem? (i := 10) rfl)) (fun _ h9 => h9) rfl dX9_seek_121 ?_
            have i14 := (ck_ok hR).1
            replace hR := (ck_ok hR).2
            refine va_lald (f := u1.2.2.2.2.2.2.1.1) hx hb hK hP 44 32 rfl rfl i14 dX9_seek_124 ?_
            refine lv_topl (fun z15 ez15 => ?_)
            replace hR := lt_ok hR ez15
            refine lv_lstore (lv' := [(7, .long z15), (6, .int z12), (0, .ref (a1 0)), (1, .int y1), (2, .int y2), (3, .int y3), (4, .int y4), (5, .int y5)]) hx hb dX9_seek_125 hl13 (by decide) rfl (fun ls16 hl16 => ?_)
            refine lv_aload_n hx hb dX9_seek_127 rfl (lv_at hl16 2 rfl) ?_
            refine va_get (D := (dC, dI)) (ci := 9) (v := .ref (a1 43)) (C := RX9) (T := TX9) (N := 14) hx hb hts hin9 hown hK hP 0 rfl rfl 6 (by decide) (hts (.fieldLink RX9 36 "OldestCoins" "board" "LOldestCoins$Board;") (List.mem_of_getElem? (i := 5) rfl)) (fun _ h9 => h9) rfl dX9_seek_128 ?_
            refine va_get (D := (dC, dI)) (ci := 1) (v := .ref (a1 44)) (C := RX1) (T := TX1) (N := 5) hx hb hts hin1 hown hK hP 43 rfl rfl 0 (by decide) (hts (.fieldLink RX9 138 "OldestCoins$Board" "had" "[J") (List.mem_of_getElem? (i := 9) rfl)) (fun _ h9 => h9) rfl dX9_seek_131 ?_
            refine lv_iload hx hb dX9_seek_134 (lv_at hl16 1 rfl) ?_
            have i17 := (ck_ok hR).1
            replace hR := (ck_ok hR).2
            refine va_lald (f := u1.2.2.2.2.2.2.1.1) hx hb hK hP 44 32 rfl rfl i17 dX9_seek_136 ?_
            refine lv_topl (fun z18 ez18 => ?_)
            replace hR := lt_ok hR ez18
            refine lv_lstore (lv' := [(9, .long z18), (7, .long z15), (6, .int z12), (0, .ref (a1 0)), (1, .int y1), (2, .int y2), (3, .int y3), (4, .int y4), (5, .int y5)]) hx hb dX9_seek_137 hl16 (by decide) rfl (fun ls19 hl19 => ?_)
            refine lv_aload_n hx hb dX9_seek_139 rfl (lv_at hl19 3 rfl) ?_
            refine va_get (D := (dC, dI)) (ci := 9) (v := .ref (a1 43)) (C := RX9) (T := TX9) (N := 14) hx hb hts hin9 hown hK hP 0 rfl rfl 6 (by decide) (hts (.fieldLink RX9 36 "OldestCoins" "board" "LOldestCoins$Board;") (List.mem_of_getElem? (i := 5) rfl)) (fun _ h9 => h9) rfl dX9_seek_140 ?_
            refine lv_aload_n hx hb dX9_seek_143 rfl (lv_at hl19 3 rfl) ?_
            refine va_get (D := (dC, dI)) (ci := 9) (v := .ref (a1 31)) (C := RX9) (T := TX9) (N := 14) hx hb hts hin9 hown hK hP 0 rfl rfl 3 (by decide) (hts (.fieldLink RX9 22 "OldestCoins" "ranks" "LOldestCoins$Ranks;") (List.mem_of_getElem? (i := 11) rfl)) (fun _ h9 => h9) rfl dX9_seek_144 ?_
            refine lv_aload_n hx hb dX9_seek_147 rfl (lv_at hl19 3 rfl) ?_
            refine va_get (D := (dC, dI)) (ci := 9) (v := .ref (a1 47)) (C := RX9) (T := TX9) (N := 14) hx hb hts hin9 hown hK hP 0 rfl rfl 8 (by decide) (hts (.fieldLink RX9 46 "OldestCoins" "tour" "LOldestCoins$Tour;") (List.mem_of_getElem? (i := 4) rfl)) (fun _ h9 => h9) rfl dX9_seek_148 ?_
            refine va_get (D := (dC, dI)) (ci := 7) (v := .int u1.2.2.2.2.2.2.2.2.1.1) (C := RX7) (T := TX7) (N := 7) hx hb hts hin7 hown hK hP 47 rfl rfl 0 (by decide) (hts (.fieldLink RX9 356 "OldestCoins$Tour" "purse" "I") (List.mem_of_getElem? (i := 10) rfl)) (fun _ h9 => h9) rfl dX9_seek_151 ?_
            refine lv_iload hx hb dX9_seek_154 (lv_at hl19 2 rfl) ?_
            refine lv_aload_n hx hb dX9_seek_156 rfl (lv_at hl19 3 rfl) ?_
            refine va_get (D := (dC, dI)) (ci := 9) (v := .ref (a1 1)) (C := RX9) (T := TX9) (N := 14) hx hb hts hin9 hown hK hP 0 rfl rfl 0 (by decide) (hts (.fieldLink RX9 10 "OldestCoins" "town" "LOldestCoins$Town;") (List.mem_of_getElem? (i := 1) rfl)) (fun _ h9 => h9) rfl dX9_seek_157 ?_
            refine va_get (D := (dC, dI)) (ci := 8) (v := .ref (a1 12)) (C := RX8) (T := TX8) (N := 4) hx hb hts hin8 hown hK hP 1 rfl rfl 3 (by decide) (hts (.fieldLink RX9 198 "OldestCoins$Town" "errands" "LOldestCoins$Bills;") (List.mem_of_getElem? (i := 2) rfl)) (fun _ h9 => h9) rfl dX9_seek_160 ?_
            refine va_get (D := (dC, dI)) (ci := 0) (v := .ref (a1 15)) (C := RX0) (T := TX0) (N := 4) hx hb hts hin0 hown hK hP 12 rfl rfl 3 (by decide) (hts (.fieldLink RX9 339 "OldestCoins$Bills" "sum" "[I") (List.mem_of_getElem? (i := 12) rfl)) (fun _ h9 => h9) rfl dX9_seek_163 ?_
            refine lv_iload hx hb dX9_seek_166 (lv_at hl19 8 rfl) ?_
            have i20 := (ck_ok hR).1
            replace hR := (ck_ok hR).2
            refine va_iald (f := u1.1.2.2.2.2.2.2) hx hb hK hP 15 10 rfl rfl i20 dX9_seek_168 ?_
            have hR0 := ob_ok hR
            clear hR
            obtain ⟨q21, hq21, hR⟩ := hR0
            refine va_calli (va_runV (As := [.ref (a1 31), .int u1.2.2.2.2.2.2.2.2.1.1, .int z12, .int (u1.1.2.2.2.2.2.2 y5.toNatClampNeg)]) (rest := []) ⟨hx, hb, hml, hown, hts⟩ (cc_X1_meetsEvenly l dC dI fu (sh_ a1 43) (sh_ a1 31) (sh_ k1 43) (sh_ k1 31) H.size u1.2.2.2.2.2.2.2.2.1.1 z12 (u1.1.2.2.2.2.2.2 y5.toNatClampNeg) u1.2.2.2.2.2.2.1 u1.2.2.2.1 q21 hq21) (cwV 4 hts gX9_seek_X1_meetsEvenly rfl rfl rfl (by decide +kernel) ⟨by dsimp only; omega, by dsimp only; omega⟩) (pf_v (hK.sub (tys' := zt_1 (sh_ k1 43) ++ zt_4 (sh_ k1 31)) [32, 22, 23, 24, 25, 26] rfl) (sub_P (sb_9__0c43_0c31 a1 k1 u1) hP) (sub_D (sb_9__0c43_0c31 a1 k1 u1) hD) 1 0 rfl rfl rfl) rfl rfl hl19.1 rfl (lv_room (Nat.le_of_ble_eq_true rfl)) dX9_seek_169 ⟨Nat.le_refl _, Nat.le_refl _⟩) hS (fun q _ h => (sub_F (sb_9__0c43_0c31 a1 k1 u1) hD hS hA) q h) (sub_F (sb_9__0c43_0c31 a1 k1 u1) hD hS hA) (fun r21 v21 t21 H21 locs21 ht21 hvm21 hw21 hB21 hz21 hk21 hS21 => ?_)
            obtain rfl : r21 = q21.1 := (congrArg Prod.fst hw21).symm
            obtain rfl : v21 = q21.2 := (congrArg Prod.snd hw21).symm
            obtain ⟨hP21, hD21⟩ := jn_sub (sb_9__0c43_0c31 a1 k1 u1) (jo_9__0c43_0c31__0 a1 k1 u1 q21.2) rfl hP hD hk21 ht21 hB21
            have hP21 : va_P (dC, dI) vwCl (zc_9 a1 k1 (u1.1, u1.2.1, u1.2.2.1, u1.2.2.2.1, u1.2.2.2.2.1, u1.2.2.2.2.2.1, q21.2, u1.2.2.2.2.2.2.2)) H21 := hP21
            have hD21 : va_D A (zc_9 a1 k1 (u1.1, u1.2.1, u1.2.2.1, u1.2.2.2.1, u1.2.2.2.2.1, u1.2.2.2.2.2.1, q21.2, u1.2.2.2.2.2.2.2)) := hD21
            clear hP hD hS hB21 hk21 hvm21 hz21 ht21
            refine lv_istore (lv' := [(11, .int q21.1), (9, .long z18), (7, .long z15), (6, .int z12), (0, .ref (a1 0)), (1, .int y1), (2, .int y2), (3, .int y3), (4, .int y4), (5, .int y5)]) hx hb dX9_seek_172 hl19 (by decide) rfl (fun ls22 hl22 => ?_)
            refine lv_aload_n hx hb dX9_seek_174 rfl (lv_at hl22 4 rfl) ?_
            refine va_get (D := (dC, dI)) (ci := 9) (v := .ref (a1 47)) (C := RX9) (T := TX9) (N := 14) hx hb hts hin9 hown hK hP21 0 rfl rfl 8 (by decide) (hts (.fieldLink RX9 46 "OldestCoins" "tour" "LOldestCoins$Tour;") (List.mem_of_getElem? (i := 4) rfl)) (fun _ h9 => h9) rfl dX9_seek_175 ?_
            refine va_get (D := (dC, dI)) (ci := 7) (v := .ref (a1 48)) (C := RX7) (T := TX7) (N := 7) hx hb hts hin7 hown hK hP21 47 rfl rfl 3 (by decide) (hts (.fieldLink RX9 358 "OldestCoins$Tour" "path" "[I") (List.mem_of_getElem? (i := 13) rfl)) (fun _ h9 => h9) rfl dX9_seek_178 ?_
            refine lv_iload_n hx hb dX9_seek_181 rfl (lv_at hl22 5 rfl) ?_
            refine lv_iload hx hb dX9_seek_182 (lv_at hl22 9 rfl) ?_
            have i23 := (ck_ok hR).1
            replace hR := (ck_ok hR).2
            refine va_iast (f := u1.2.2.2.2.2.2.2.2.1.2.2.2.1) hx hb hK hP21 hD21 hS21 48 34 rfl rfl i23 dX9_seek_184 (fun H23 locs23 hP23 hD23 hS23 => ?_)
            have hP23 : va_P (dC, dI) vwCl (zc_9 a1 k1 (u1.1, u1.2.1, u1.2.2.1, u1.2.2.2.1, u1.2.2.2.2.1, u1.2.2.2.2.2.1, q21.2, u1.2.2.2.2.2.2.2.1, (u1.2.2.2.2.2.2.2.2.1.1, u1.2.2.2.2.2.2.2.2.1.2.1, u1.2.2.2.2.2.2.2.2.1.2.2.1, (upd u1.2.2.2.2.2.2.2.2.1.2.2.2.1 y1.toNatClampNeg y5), u1.2.2.2.2.2.2.2.2.1.2.2.2.2), u1.2.2.2.2.2.2.2.2.2)) H23 := hP23
            have hD23 : va_D A (zc_9 a1 k1 (u1.1, u1.2.1, u1.2.2.1, u1.2.2.2.1, u1.2.2.2.2.1, u1.2.2.2.2.2.1, q21.2, u1.2.2.2.2.2.2.2.1, (u1.2.2.2.2.2.2.2.2.1.1, u1.2.2.2.2.2.2.2.2.1.2.1, u1.2.2.2.2.2.2.2.2.1.2.2.1, (upd u1.2.2.2.2.2.2.2.2.1.2.2.2.1 y1.toNatClampNeg y5), u1.2.2.2.2.2.2.2.2.1.2.2.2.2), u1.2.2.2.2.2.2.2.2.2)) := hD23
            clear hP21 hD21 hS21
            refine lv_aload_n hx hb dX9_seek_185 rfl (lv_at hl22 4 rfl) ?_
            refine lv_iload_n hx hb dX9_seek_186 rfl (lv_at hl22 5 rfl) ?_
            refine lv_iconst (v := (1 : Int32)) hx hb dX9_seek_187 (by decide) ?_
            refine lv_iadd hx hb dX9_seek_188 ?_
            refine lv_iload_n hx hb dX9_seek_189 rfl (lv_at hl22 6 rfl) ?_
            refine lv_iconst (v := (1 : Int32)) hx hb dX9_seek_190 (by decide) ?_
            refine lv_iload hx hb dX9_seek_191 (lv_at hl22 9 rfl) ?_
            refine lv_ishl hx hb dX9_seek_193 ?_
            refine lv_ior hx hb dX9_seek_194 ?_
            refine lv_iload hx hb dX9_seek_195 (lv_at hl22 0 rfl) ?_
            refine lv_if_eq (tgt := 206) hx hb dX9_seek_197 (by decide) (fun c24 => ?_) (fun c24 => ?_)
            · replace hR := ifp_ hR c24
              refine lv_iload_n hx hb dX9_seek_206 rfl (lv_at hl22 7 rfl) ?_
              exact hB207 (rr_X9_seek_59 fu (rr_X9_seek fu d) n) ih y1 y2 y3 y4 y5 z12 z15 z18 y3 (y2 ||| ((1 : Int32) <<< (y5 &&& 31))) (y1 + (1 : Int32)) (u1.1, u1.2.1, u1.2.2.1, u1.2.2.2.1, u1.2.2.2.2.1, u1.2.2.2.2.2.1, q21.2, u1.2.2.2.2.2.2.2.1, (u1.2.2.2.2.2.2.2.2.1.1, u1.2.2.2.2.2.2.2.2.1.2.1, u1.2.2.2.2.2.2.2.2.1.2.2.1, (upd u1.2.2.2.2.2.2.2.2.1.2.2.2.1 y1.toNatClampNeg y5), u1.2.2.2.2.2.2.2.2.1.2.2.2.2), u1.2.2.2.2.2.2.2.2.2) H23 locs23 ls22 hP23 hD23 hS23 (lv_sub hl22 [4, 5, 6, 7, 8, 9, 3, 2, 1] rfl) hR
            · replace hR := ifn_ hR c24
              refine lv_iload_n hx hb dX9_seek_200 rfl (lv_at hl22 7 rfl) ?_
              refine lv_iconst (v := (1 : Int32)) hx hb dX9_seek_201 (by decide) ?_
              refine lv_iadd hx hb dX9_seek_202 ?_
              refine lv_goto (tgt := 207) hx hb dX9_seek_203 (by decide) ?_
              exact hB207 (rr_X9_seek_59 fu (rr_X9_seek fu d) n) ih y1 y2 y3 y4 y5 z12 z15 z18 (y3 + (1 : Int32)) (y2 ||| ((1 : Int32) <<< (y5 &&& 31))) (y1 + (1 : Int32)) (u1.1, u1.2.1, u1.2.2.1, u1.2.2.2.1, u1.2.2.2.2.1, u1.2.2.2.2.2.1, q21.2, u1.2.2.2.2.2.2.2.1, (u1.2.2.2.2.2.2.2.2.1.1, u1.2.2.2.2.2.2.2.2.1.2.1, u1.2.2.2.2.2.2.2.2.1.2.2.1, (upd u1.2.2.2.2.2.2.2.2.1.2.2.2.1 y1.toNatClampNeg y5), u1.2.2.2.2.2.2.2.2.1.2.2.2.2), u1.2.2.2.2.2.2.2.2.2) H23 locs23 ls22 hP23 hD23 hS23 (lv_sub hl22 [4, 5, 6, 7, 8, 9, 3, 2, 1] rfl) hR
          · replace hR := ifn_ hR c10
            refine lv_goto (tgt := 239) hx hb dX9_seek_92 (by decide) ?_
            exact hB239 (rr_X9_seek_59 fu (rr_X9_seek fu d) n) ih y1 y2 y3 y4 y5 u1 H locs ls hP hD hS (lv_sub hl [0, 1, 2, 3, 4, 5] rfl) hR
  change W p l e ({ frames := 6 + (d + 1), cells := 0, slots := 0, locals := 143 + 31 * (d + 1) } : Room) s m args below meth c s.heap [] 0 0 Q (F0 m 0 ls [])
  unfold rr_X9_seek_b at hR
  refine lv_aload_n hx hb dX9_seek_0 rfl (lv_at hl 0 rfl) ?_
  refine va_get (D := (dC, dI)) (ci := 9) (v := .ref (a1 1)) (C := RX9) (T := TX9) (N := 14) hx hb hts hin9 hown hK hP 0 rfl rfl 0 (by decide) (hts (.fieldLink RX9 10 "OldestCoins" "town" "LOldestCoins$Town;") (List.mem_of_getElem? (i := 1) rfl)) (fun _ h9 => h9) rfl dX9_seek_1 ?_
  refine va_get (D := (dC, dI)) (ci := 8) (v := .ref (a1 12)) (C := RX8) (T := TX8) (N := 4) hx hb hts hin8 hown hK hP 1 rfl rfl 3 (by decide) (hts (.fieldLink RX9 198 "OldestCoins$Town" "errands" "LOldestCoins$Bills;") (List.mem_of_getElem? (i := 2) rfl)) (fun _ h9 => h9) rfl dX9_seek_4 ?_
  refine va_get (D := (dC, dI)) (ci := 0) (v := .int s1.1.2.2.2.1) (C := RX0) (T := TX0) (N := 4) hx hb hts hin0 hown hK hP 12 rfl rfl 0 (by decide) (hts (.fieldLink RX9 193 "OldestCoins$Bills" "size" "I") (List.mem_of_getElem? (i := 3) rfl)) (fun _ h9 => h9) rfl dX9_seek_7 ?_
  refine lv_istore (lv' := [(4, .int s1.1.2.2.2.1), (0, .ref (a1 0)), (1, .int x1), (2, .int x2), (3, .int x3)]) hx hb dX9_seek_10 hl (by decide) rfl (fun ls1 hl1 => ?_)
  refine lv_iload_n hx hb dX9_seek_12 rfl (lv_at hl1 2 rfl) ?_
  refine lv_iload hx hb dX9_seek_13 (lv_at hl1 0 rfl) ?_
  refine lv_icmp_ge (tgt := 24) hx hb dX9_seek_15 (by decide) (fun c2 => ?_) (fun c2 => ?_)
  · replace hR := ifp_ hR c2
    exact hB24 x3 s1.1.2.2.2.1 s1 s.heap [] ls1 hP hD hS (lv_sub hl1 [1, 4, 0] rfl) hR
  · replace hR := ifn_ hR c2
    refine lv_iload_n hx hb dX9_seek_18 rfl (lv_at hl1 2 rfl) ?_
    refine lv_bipush (v := (6 : Int32)) hx hb dX9_seek_19 (by decide) ?_
    refine lv_icmp_lt (tgt := 39) hx hb dX9_seek_21 (by decide) (fun c3 => ?_) (fun c3 => ?_)
    · replace hR := ifp_ hR c3
      refine lv_aload_n hx hb dX9_seek_39 rfl (lv_at hl1 1 rfl) ?_
      refine va_get (D := (dC, dI)) (ci := 9) (v := .ref (a1 47)) (C := RX9) (T := TX9) (N := 14) hx hb hts hin9 hown hK hP 0 rfl rfl 8 (by decide) (hts (.fieldLink RX9 46 "OldestCoins" "tour" "LOldestCoins$Tour;") (List.mem_of_getElem? (i := 4) rfl)) (fun _ h9 => h9) rfl dX9_seek_40 ?_
      refine lv_iload_n hx hb dX9_seek_43 rfl (lv_at hl1 4 rfl) ?_
      refine lv_iload hx hb dX9_seek_44 (lv_at hl1 0 rfl) ?_
      refine lv_iadd hx hb dX9_seek_46 ?_
      refine lv_iload_n hx hb dX9_seek_47 rfl (lv_at hl1 2 rfl) ?_
      refine lv_isub hx hb dX9_seek_48 ?_
      have hR0 := ob_ok hR
      clear hR
      obtain ⟨q4, hq4, hR⟩ := hR0
      refine va_calli (va_runV (As := [.int ((x3 + s1.1.2.2.2.1) - x1)]) (rest := []) ⟨hx, hb, hml, hown, hts⟩ (cc_X7_mayGetBetter l dC dI fu (sh_ a1 47) (sh_ k1 47) s.heap.size ((x3 + s1.1.2.2.2.1) - x1) s1.2.2.2.2.2.2.2.2.1 q4 hq4) (cwV 1 hts gX9_seek_X7_mayGetBetter rfl rfl rfl (by decide +kernel) ⟨by dsimp only; omega, by dsimp only; omega⟩) (pf_v (hK.sub (tys' := zt_7 (sh_ k1 47)) [34, 35] rfl) (sub_P (sb_9__0c47 a1 k1 s1) hP) (sub_D (sb_9__0c47 a1 k1 s1) hD) 7 0 rfl rfl rfl) rfl rfl hl1.1 rfl (lv_room (Nat.le_of_ble_eq_true rfl)) dX9_seek_49 ⟨Nat.le_refl _, Nat.le_refl _⟩) hS (fun q _ h => (sub_F (sb_9__0c47 a1 k1 s1) hD hS hA) q h) (sub_F (sb_9__0c47 a1 k1 s1) hD hS hA) (fun r4 v4 t4 H4 locs4 ht4 hvm4 hw4 hB4 hz4 hk4 hS4 => ?_)
      subst hw4
      obtain ⟨hP4, hD4⟩ := jn_sub (sb_9__0c47 a1 k1 s1) (jo_9__0c47__ a1 k1 s1 ) rfl hP hD hk4 ht4 hB4
      have hP4 : va_P (dC, dI) vwCl (zc_9 a1 k1 s1) H4 := hP4
      have hD4 : va_D A (zc_9 a1 k1 s1) := hD4
      clear hP hD hS hB4 hk4 hvm4 hz4 ht4
      refine lv_if_ne (tgt := 56) hx hb dX9_seek_52 (by decide) (fun c5 => ?_) (fun c5 => ?_)
      · replace hR := ifn_ hR c5
        refine lv_iconst (v := (0 : Int32)) hx hb dX9_seek_56 (by decide) ?_
        refine lv_istore (lv' := [(5, .int (0 : Int32)), (4, .int s1.1.2.2.2.1), (0, .ref (a1 0)), (1, .int x1), (2, .int x2), (3, .int x3)]) hx hb dX9_seek_57 hl1 (by decide) rfl (fun ls6 hl6 => ?_)
        exact hB59 fu x1 x2 x3 s1.1.2.2.2.1 (0 : Int32) s1 H4 locs4 ls6 hP4 hD4 hS4 (lv_sub hl6 [2, 3, 4, 5, 1, 0] rfl) hR
      · replace hR := ifp_ hR c5
        subst hQe
        exact W.vret hx hb hr (fun t ht hW => ⟨⟨s1, rfl, (Option.some.inj hR).symm, by rw [ht]; exact hP4, va_K.moved hW.alike hK, hD4⟩, hS4.F ht⟩) hS4.2.2 dX9_seek_55
    · replace hR := ifn_ hR c3
      exact hB24 x3 s1.1.2.2.2.1 s1 s.heap [] ls1 hP hD hS (lv_sub hl1 [1, 4, 0] rfl) hR
def rr_X9_send (fu : Nat) (x1 : Int32) (x2 : Int32) (x3 : Int32) (x4 : Int32) (s1 : ZT_9) : Option (Int32 × ZT_9) := (rr_X9_isPurse fu x1).bind (fun q1 => (if q1 = (0 : Int32) then some ((-1 : Int32), s1) else (rr_X9_isCoin fu x2 s1).bind (fun q3 => (if q3 = (0 : Int32) then some ((-1 : Int32), s1) else (rr_X9_isShop fu x3).bind (fun q5 => (if q5 = (0 : Int32) then some ((-1 : Int32), s1) else (rr_X9_isWithin fu x4 (0 : Int32) (5 : Int32)).bind (fun q7 => (if q7 = (0 : Int32) then some ((-1 : Int32), s1) else (if x4 < s1.1.2.2.2.1 then (rr_X9_layOut fu s1).bind (fun q10 => ck_ x2 40 ((rr_X7_begin fu x1 ((1 : Int64) <<< ((q10.2.2.2.1.2.2.2.1 x2.toNatClampNeg).toInt64 &&& 63)) x3 (0 : Int32) (1 : Int32) q10.2.2.2.2.2.2.2.2.1).bind (fun q12 => (rr_X9_seek fu 8 (0 : Int32) (0 : Int32) (0 : Int32) (q10.1, q10.2.1, q10.2.2.1, q10.2.2.2.1, q10.2.2.2.2.1, q10.2.2.2.2.2.1, q10.2.2.2.2.2.2.1, q10.2.2.2.2.2.2.2.1, q12, q10.2.2.2.2.2.2.2.2.2)).bind (fun q13 => (if q13.2.2.2.2.2.2.2.2.1.2.1 = (0 : Int32) then some ((-4 : Int32), q13) else ck_ x4 6 (some ((q13.2.2.2.2.2.2.2.2.1.2.2.2.2.1 x4.toNatClampNeg), q13))))))) else some ((-4 : Int32), s1))))))))))
set_option maxRecDepth 100000 in
theorem jo_9__0c47__0 (a1 : Nat → Nat) (k1 : Nat → ClassId) (s1 : ZT_9) (u1 : ZT_7) : List.Perm (zc_9 a1 k1 (s1.1, s1.2.1, s1.2.2.1, s1.2.2.2.1, s1.2.2.2.2.1, s1.2.2.2.2.2.1, s1.2.2.2.2.2.2.1, s1.2.2.2.2.2.2.2.1, u1, s1.2.2.2.2.2.2.2.2.2)) ((zc_7 (sh_ a1 47) (sh_ k1 47) u1) ++ ([(a1 0, .inr (9, [.ref (a1 1), .ref (a1 16), .int s1.2.2.1, .ref (a1 31), .int s1.2.2.2.2.1, .ref (a1 37), .ref (a1 43), .ref (a1 45), .ref (a1 47), .ref (a1 50), .ref (a1 54), .ref (a1 56), .ref (a1 62), .ref (a1 66)]))] ++ (zc_8 (sh_ a1 1) (sh_ k1 1) s1.1 ++ (zc_8 (sh_ a1 16) (sh_ k1 16) s1.2.1 ++ (zc_4 (sh_ a1 31) (sh_ k1 31) s1.2.2.2.1 ++ (zc_4 (sh_ a1 37) (sh_ k1 37) s1.2.2.2.2.2.1 ++ (zc_1 (sh_ a1 43) (sh_ k1 43) s1.2.2.2.2.2.2.1 ++ (zc_1 (sh_ a1 45) (sh_ k1 45) s1.2.2.2.2.2.2.2.1 ++ (([] : va_W) ++ (zc_3 (sh_ a1 50) (sh_ k1 50) s1.2.2.2.2.2.2.2.2.2.1 ++ (zc_6 (sh_ a1 54) (sh_ k1 54) s1.2.2.2.2.2.2.2.2.2.2.1 ++ (zc_2 (sh_ a1 56) (sh_ k1 56) 10 s1.2.2.2.2.2.2.2.2.2.2.2.1 ++ (zc_0 (sh_ a1 62) (sh_ k1 62) 24 s1.2.2.2.2.2.2.2.2.2.2.2.2.1 ++ zc_5 (sh_ a1 66) (sh_ k1 66) s1.2.2.2.2.2.2.2.2.2.2.2.2.2))))))))))))) := (pu_r ([(a1 0, .inr (9, [.ref (a1 1), .ref (a1 16), .int s1.2.2.1, .ref (a1 31), .int s1.2.2.2.2.1, .ref (a1 37), .ref (a1 43), .ref (a1 45), .ref (a1 47), .ref (a1 50), .ref (a1 54), .ref (a1 56), .ref (a1 62), .ref (a1 66)]))]) (pu_r (zc_8 (sh_ a1 1) (sh_ k1 1) s1.1) (pu_r (zc_8 (sh_ a1 16) (sh_ k1 16) s1.2.1) (pu_r (zc_4 (sh_ a1 31) (sh_ k1 31) s1.2.2.2.1) (pu_r (zc_4 (sh_ a1 37) (sh_ k1 37) s1.2.2.2.2.2.1) (pu_r (zc_1 (sh_ a1 43) (sh_ k1 43) s1.2.2.2.2.2.2.1) (pu_r (zc_1 (sh_ a1 45) (sh_ k1 45) s1.2.2.2.2.2.2.2.1) (pu_l ((zc_3 (sh_ a1 50) (sh_ k1 50) s1.2.2.2.2.2.2.2.2.2.1 ++ (zc_6 (sh_ a1 54) (sh_ k1 54) s1.2.2.2.2.2.2.2.2.2.2.1 ++ (zc_2 (sh_ a1 56) (sh_ k1 56) 10 s1.2.2.2.2.2.2.2.2.2.2.2.1 ++ (zc_0 (sh_ a1 62) (sh_ k1 62) 24 s1.2.2.2.2.2.2.2.2.2.2.2.2.1 ++ zc_5 (sh_ a1 66) (sh_ k1 66) s1.2.2.2.2.2.2.2.2.2.2.2.2.2))))) (pu_1 (zc_7 (sh_ a1 47) (sh_ k1 47) u1))))))))))
set_option maxHeartbeats 4000000 in
set_option maxRecDepth 100000 in
theorem cc_X9_send (l : Launch) (dC : Nat → ClassId) (dI : Nat → Nat → Nat) (fu : Nat) (a1 : Nat → Nat) (k1 : Nat → ClassId) (sz : Nat) (x1 : Int32) (x2 : Int32) (x3 : Int32) (x4 : Int32) (s1 : ZT_9) (res : Int32 × ZT_9) (hR : rr_X9_send fu x1 x2 x3 x4 s1 = some res) : Met l yX9_send wsX9_send ({ frames := 15, cells := 0, slots := 0, locals := 422 } : Room) (PcF [.ref (a1 0), .int x1, .int x2, .int x3, .int x4] sz (dC, dI) (zc_9 a1 k1 s1) (zt_9 k1)) (va_Qi (fun (r : Int32) (u : ZT_9) => res = (r, u)) (fun u t => at3_ (dC, dI) (zc_9 a1 k1 u) (zt_9 k1) (va_A (zc_9 a1 k1 s1) sz) t) (va_A (zc_9 a1 k1 s1) sz)) 0 0 (va_A (zc_9 a1 k1 s1) sz) := by
  refine Met.ofW (cc := cX9_send) (maxL := 5) (ret := (some .int)) (by decide) rfl ?_
  intro p e s m args below meth c s₁ B hml hv
  obtain ⟨hav, hsz, hP, hK, hD0⟩ := hv
  have hx := B.exec
  have hb := B.bytes
  have hr := B.returns
  have hts := atoms_spec (ws := wsX9_send) B.pre
  have hown : s.vm.findClass RX9 = some m.cls := findClass_of_methodNamed B.named
  have hlocks := B.notSynchronized
  have hin0 : ∀ w ∈ wsX00, w ∈ wsX9_send := fun w h => List.mem_cons_of_mem _ (List.mem_append_left _ (List.mem_append_left _ (List.mem_append_left _ (List.mem_append_left _ (List.mem_append_right _ h)))))
  have hin4 : ∀ w ∈ wsX40, w ∈ wsX9_send := fun w h => List.mem_cons_of_mem _ (List.mem_append_left _ (List.mem_append_left _ (List.mem_append_left _ (List.mem_append_right _ h))))
  have hin7 : ∀ w ∈ wsX70, w ∈ wsX9_send := fun w h => List.mem_cons_of_mem _ (List.mem_append_left _ (List.mem_append_left _ (List.mem_append_right _ h)))
  have hin8 : ∀ w ∈ wsX80, w ∈ wsX9_send := fun w h => List.mem_cons_of_mem _ (List.mem_append_left _ (List.mem_append_left _ (List.mem_append_left _ (List.mem_append_left _ (List.mem_append_left _ (List.mem_append_right _ h))))))
  have hin9 : ∀ w ∈ wsX90, w ∈ wsX9_send := fun w h => List.mem_cons_of_mem _ (List.mem_append_left _ (List.mem_append_left _ (List.mem_append_left _ (List.mem_append_left _ (List.mem_append_left _ (List.mem_append_left _ (List.mem_append_right _ h)))))))
  subst hsz
  have hD := hD0.self (sz := s.heap.size)
  clear hD0
  generalize hAe : va_A (zc_9 a1 k1 s1) s.heap.size = A at hD ⊢
  have hA : ∀ q : Nat, s.heap.size ≤ q → A q := fun q h => by rw [← hAe]; exact Or.inr h
  have hS : va_S A s.heap s.heap [] := va_S.rf
  generalize hQe : MQ below _ args s 0 0 A = Q
  rw [show entryFrame m args 5 = F0 m 0 ((lg_sl ([.ref (a1 0), .int x1, .int x2, .int x3, .int x4]) ++ List.replicate (5 - (lg_sl ([.ref (a1 0), .int x1, .int x2, .int x3, .int x4])).length) Slot.unset).toArray) [] from by rw [hav]; exact lg_entry_eq m _ _]
  have hl := lv_entry ([.ref (a1 0), .int x1, .int x2, .int x3, .int x4]) (n := 5) (Nat.le_of_ble_eq_true rfl)
  generalize (lg_sl ([.ref (a1 0), .int x1, .int x2, .int x3, .int x4]) ++ List.replicate (5 - (lg_sl ([.ref (a1 0), .int x1, .int x2, .int x3, .int x4])).length) Slot.unset).toArray = ls at hl ⊢
  have hl : lv_has ls 5 [(0, .ref (a1 0)), (1, .int x1), (2, .int x2), (3, .int x3), (4, .int x4)] := hl
  unfold rr_X9_send at hR
  refine lv_iload_n hx hb dX9_send_0 rfl (lv_at hl 1 rfl) ?_
  have hR0 := ob_ok hR
  clear hR
  obtain ⟨q1, hq1, hR⟩ := hR0
  refine va_calli (va_runS (As := [.int x1]) (rest := []) ⟨hx, hb, hml, hown, hts⟩ (cc_X9_isPurse l dC dI fu s.heap.size x1 q1 hq1) (va_cwS 1 hts gX9_send_X9_isPurse rfl rfl rfl (by decide +kernel) ⟨Nat.le_of_ble_eq_true rfl, Nat.le_of_ble_eq_true rfl⟩) (pf_s (nil_K hK) nil_P (nil_D (A := A))) rfl rfl hl.1 rfl (lv_room (Nat.le_of_ble_eq_true rfl)) dX9_send_1 ⟨Nat.le_refl _, Nat.le_refl _⟩) hS (fun q _ h => (fr_none hS hA) q h) (fr_none hS hA) (fun r1 v1 t1 H1 locs1 ht1 hvm1 hw1 hB1 hz1 hk1 hS1 => ?_)
  subst hw1
  have hP1 := jn_none hP hk1
  have hD1 := hD
  have hP1 : va_P (dC, dI) vwCl (zc_9 a1 k1 s1) H1 := hP1
  have hD1 : va_D A (zc_9 a1 k1 s1) := hD1
  clear hP hD hS hB1 hk1 hvm1 hz1 ht1
  refine lv_if_eq (tgt := 32) hx hb dX9_send_4 (by decide) (fun c2 => ?_) (fun c2 => ?_)
  · replace hR := ifp_ hR c2
    refine lv_iconst (v := (-1 : Int32)) hx hb dX9_send_32 (by decide) ?_
    subst hQe
    exact W.iret (v := (-1 : Int32)) hx hb hr (fun t ht hW => ⟨⟨(-1 : Int32), s1, rfl, (Option.some.inj hR).symm, by rw [ht]; exact hP1, va_K.moved hW.alike hK, hD1⟩, hS1.F ht⟩) hS1.2.2 dX9_send_33
  · replace hR := ifn_ hR c2
    refine lv_aload_n hx hb dX9_send_7 rfl (lv_at hl 0 rfl) ?_
    refine lv_iload_n hx hb dX9_send_8 rfl (lv_at hl 2 rfl) ?_
    have hR0 := ob_ok hR
    clear hR
    obtain ⟨q3, hq3, hR⟩ := hR0
    refine va_calli (va_runV (As := [.int x2]) (rest := []) ⟨hx, hb, hml, hown, hts⟩ (cc_X9_isCoin l dC dI fu a1 k1 H1.size x2 s1 q3 hq3) (cwV 1 hts gX9_send_X9_isCoin rfl rfl rfl (by decide +kernel) ⟨Nat.le_of_ble_eq_true rfl, Nat.le_of_ble_eq_true rfl⟩) (pf_v hK hP1 hD1 9 0 rfl rfl rfl) rfl rfl hl.1 rfl (lv_room (Nat.le_of_ble_eq_true rfl)) dX9_send_9 ⟨Nat.le_refl _, Nat.le_refl _⟩) hS1 (fun q _ h => (fr_all hD1 hS1 hA) q h) (fr_all hD1 hS1 hA) (fun r3 v3 t3 H3 locs3 ht3 hvm3 hw3 hB3 hz3 hk3 hS3 => ?_)
    subst hw3
    obtain ⟨hP3, hD3⟩ := jn_all hD1 hS1 hA ht3 hB3
    have hP3 : va_P (dC, dI) vwCl (zc_9 a1 k1 s1) H3 := hP3
    have hD3 : va_D A (zc_9 a1 k1 s1) := hD3
    clear hP1 hD1 hS1 hB3 hk3 hvm3 hz3 ht3
    refine lv_if_eq (tgt := 32) hx hb dX9_send_12 (by decide) (fun c4 => ?_) (fun c4 => ?_)
    · replace hR := ifp_ hR c4
      refine lv_iconst (v := (-1 : Int32)) hx hb dX9_send_32 (by decide) ?_
      subst hQe
      exact W.iret (v := (-1 : Int32)) hx hb hr (fun t ht hW => ⟨⟨(-1 : Int32), s1, rfl, (Option.some.inj hR).symm, by rw [ht]; exact hP3, va_K.moved hW.alike hK, hD3⟩, hS3.F ht⟩) hS3.2.2 dX9_send_33
    · replace hR := ifn_ hR c4
      refine lv_iload_n hx hb dX9_send_15 rfl (lv_at hl 3 rfl) ?_
      have hR0 := ob_ok hR
      clear hR
      obtain ⟨q5, hq5, hR⟩ := hR0
      refine va_calli (va_runS (As := [.int x3]) (rest := []) ⟨hx, hb, hml, hown, hts⟩ (cc_X9_isShop l dC dI fu H3.size x3 q5 hq5) (va_cwS 1 hts gX9_send_X9_isShop rfl rfl rfl (by decide +kernel) ⟨Nat.le_of_ble_eq_true rfl, Nat.le_of_ble_eq_true rfl⟩) (pf_s (nil_K hK) nil_P (nil_D (A := A))) rfl rfl hl.1 rfl (lv_room (Nat.le_of_ble_eq_true rfl)) dX9_send_16 ⟨Nat.le_refl _, Nat.le_refl _⟩) hS3 (fun q _ h => (fr_none hS3 hA) q h) (fr_none hS3 hA) (fun r5 v5 t5 H5 locs5 ht5 hvm5 hw5 hB5 hz5 hk5 hS5 => ?_)
      subst hw5
      have hP5 := jn_none hP3 hk5
      have hD5 := hD3
      have hP5 : va_P (dC, dI) vwCl (zc_9 a1 k1 s1) H5 := hP5
      have hD5 : va_D A (zc_9 a1 k1 s1) := hD5
      clear hP3 hD3 hS3 hB5 hk5 hvm5 hz5 ht5
      refine lv_if_eq (tgt := 32) hx hb dX9_send_19 (by decide) (fun c6 => ?_) (fun c6 => ?_)
      · replace hR := ifp_ hR c6
        refine lv_iconst (v := (-1 : Int32)) hx hb dX9_send_32 (by decide) ?_
        subst hQe
        exact W.iret (v := (-1 : Int32)) hx hb hr (fun t ht hW => ⟨⟨(-1 : Int32), s1, rfl, (Option.some.inj hR).symm, by rw [ht]; exact hP5, va_K.moved hW.alike hK, hD5⟩, hS5.F ht⟩) hS5.2.2 dX9_send_33
      · replace hR := ifn_ hR c6
        refine lv_iload hx hb dX9_send_22 (lv_at hl 4 rfl) ?_
        refine lv_iconst (v := (0 : Int32)) hx hb dX9_send_24 (by decide) ?_
        refine lv_iconst (v := (5 : Int32)) hx hb dX9_send_25 (by decide) ?_
        have hR0 := ob_ok hR
        clear hR
        obtain ⟨q7, hq7, hR⟩ := hR0
        refine va_calli (va_runS (As := [.int x4, .int (0 : Int32), .int (5 : Int32)]) (rest := []) ⟨hx, hb, hml, hown, hts⟩ (cc_X9_isWithin l dC dI fu H5.size x4 (0 : Int32) (5 : Int32) q7 hq7) (va_cwS 3 hts gX9_send_X9_isWithin rfl rfl rfl (by decide +kernel) ⟨Nat.le_of_ble_eq_true rfl, Nat.le_of_ble_eq_true rfl⟩) (pf_s (nil_K hK) nil_P (nil_D (A := A))) rfl rfl hl.1 rfl (lv_room (Nat.le_of_ble_eq_true rfl)) dX9_send_26 ⟨Nat.le_refl _, Nat.le_refl _⟩) hS5 (fun q _ h => (fr_none hS5 hA) q h) (fr_none hS5 hA) (fun r7 v7 t7 H7 locs7 ht7 hvm7 hw7 hB7 hz7 hk7 hS7 => ?_)
        subst hw7
        have hP7 := jn_none hP5 hk7
        have hD7 := hD5
        have hP7 : va_P (dC, dI) vwCl (zc_9 a1 k1 s1) H7 := hP7
        have hD7 : va_D A (zc_9 a1 k1 s1) := hD7
        clear hP5 hD5 hS5 hB7 hk7 hvm7 hz7 ht7
        refine lv_if_ne (tgt := 34) hx hb dX9_send_29 (by decide) (fun c8 => ?_) (fun c8 => ?_)
        · replace hR := ifn_ hR c8
          refine lv_iload hx hb dX9_send_34 (lv_at hl 4 rfl) ?_
          refine lv_aload_n hx hb dX9_send_36 rfl (lv_at hl 0 rfl) ?_
          refine va_get (D := (dC, dI)) (ci := 9) (v := .ref (a1 1)) (C := RX9) (T := TX9) (N := 14) hx hb hts hin9 hown hK hP7 0 rfl rfl 0 (by decide) (hts (.fieldLink RX9 10 "OldestCoins" "town" "LOldestCoins$Town;") (List.mem_of_getElem? (i := 1) rfl)) (fun _ h9 => h9) rfl dX9_send_37 ?_
          refine va_get (D := (dC, dI)) (ci := 8) (v := .ref (a1 12)) (C := RX8) (T := TX8) (N := 4) hx hb hts hin8 hown hK hP7 1 rfl rfl 3 (by decide) (hts (.fieldLink RX9 198 "OldestCoins$Town" "errands" "LOldestCoins$Bills;") (List.mem_of_getElem? (i := 2) rfl)) (fun _ h9 => h9) rfl dX9_send_40 ?_
          refine va_get (D := (dC, dI)) (ci := 0) (v := .int s1.1.2.2.2.1) (C := RX0) (T := TX0) (N := 4) hx hb hts hin0 hown hK hP7 12 rfl rfl 0 (by decide) (hts (.fieldLink RX9 193 "OldestCoins$Bills" "size" "I") (List.mem_of_getElem? (i := 3) rfl)) (fun _ h9 => h9) rfl dX9_send_43 ?_
          refine lv_icmp_lt (tgt := 52) hx hb dX9_send_46 (by decide) (fun c9 => ?_) (fun c9 => ?_)
          · replace hR := ifp_ hR c9
            refine lv_aload_n hx hb dX9_send_52 rfl (lv_at hl 0 rfl) ?_
            have hR0 := ob_ok hR
            clear hR
            obtain ⟨q10, hq10, hR⟩ := hR0
            refine va_callv (va_runV (As := []) (rest := []) ⟨hx, hb, hml, hown, hts⟩ (cc_X9_layOut l dC dI fu a1 k1 H7.size s1 q10 hq10) (cwV 0 hts gX9_send_X9_layOut rfl rfl rfl (by decide +kernel) ⟨Nat.le_of_ble_eq_true rfl, Nat.le_of_ble_eq_true rfl⟩) (pf_v hK hP7 hD7 9 0 rfl rfl rfl) rfl rfl hl.1 rfl (lv_room (Nat.le_of_ble_eq_true rfl)) dX9_send_53 ⟨Nat.le_refl _, Nat.le_refl _⟩) hS7 (fun q _ h => (fr_all hD7 hS7 hA) q h) (fr_all hD7 hS7 hA) (fun v10 t10 H10 locs10 ht10 hvm10 hw10 hB10 hz10 hk10 hS10 => ?_)
            subst hw10
            obtain ⟨hP10, hD10⟩ := jn_all hD7 hS7 hA ht10 hB10
            have hP10 : va_P (dC, dI) vwCl (zc_9 a1 k1 q10) H10 := hP10
            have hD10 : va_D A (zc_9 a1 k1 q10) := hD10
            clear hP7 hD7 hS7 hB10 hk10 hvm10 hz10 ht10
            refine lv_aload_n hx hb dX9_send_56 rfl (lv_at hl 0 rfl) ?_
            refine va_get (D := (dC, dI)) (ci := 9) (v := .ref (a1 47)) (C := RX9) (T := TX9) (N := 14) hx hb hts hin9 hown hK hP10 0 rfl rfl 8 (by decide) (hts (.fieldLink RX9 46 "OldestCoins" "tour" "LOldestCoins$Tour;") (List.mem_of_getElem? (i := 4) rfl)) (fun _ h9 => h9) rfl dX9_send_57 ?_
            refine lv_iload_n hx hb dX9_send_60 rfl (lv_at hl 1 rfl) ?_
            refine lv_lconst (v := (1 : Int64)) hx hb dX9_send_61 (by decide) ?_
            refine lv_aload_n hx hb dX9_send_62 rfl (lv_at hl 0 rfl) ?_
            refine va_get (D := (dC, dI)) (ci := 9) (v := .ref (a1 31)) (C := RX9) (T := TX9) (N := 14) hx hb hts hin9 hown hK hP10 0 rfl rfl 3 (by decide) (hts (.fieldLink RX9 22 "OldestCoins" "ranks" "LOldestCoins$Ranks;") (List.mem_of_getElem? (i := 5) rfl)) (fun _ h9 => h9) rfl dX9_send_63 ?_
            refine va_get (D := (dC, dI)) (ci := 4) (v := .ref (a1 34)) (C := RX4) (T := TX4) (N := 6) hx hb hts hin4 hown hK hP10 31 rfl rfl 3 (by decide) (hts (.fieldLink RX9 258 "OldestCoins$Ranks" "rankOf" "[I") (List.mem_of_getElem? (i := 6) rfl)) (fun _ h9 => h9) rfl dX9_send_66 ?_
            refine lv_iload_n hx hb dX9_send_69 rfl (lv_at hl 2 rfl) ?_
            have i11 := (ck_ok hR).1
            replace hR := (ck_ok hR).2
            refine va_iald (f := q10.2.2.2.1.2.2.2.1) hx hb hK hP10 34 24 rfl rfl i11 dX9_send_70 ?_
            refine lv_lshl (v := ((1 : Int64) <<< ((q10.2.2.2.1.2.2.2.1 x2.toNatClampNeg).toInt64 &&& 63))) hx hb dX9_send_71 rfl ?_
            refine lv_iload_n hx hb dX9_send_72 rfl (lv_at hl 3 rfl) ?_
            refine lv_iconst (v := (0 : Int32)) hx hb dX9_send_73 (by decide) ?_
            refine lv_iconst (v := (1 : Int32)) hx hb dX9_send_74 (by decide) ?_
            have hR0 := ob_ok hR
            clear hR
            obtain ⟨q12, hq12, hR⟩ := hR0
            refine va_callv (va_runV (As := [.int x1, .long ((1 : Int64) <<< ((q10.2.2.2.1.2.2.2.1 x2.toNatClampNeg).toInt64 &&& 63)), .int x3, .int (0 : Int32), .int (1 : Int32)]) (rest := []) ⟨hx, hb, hml, hown, hts⟩ (cc_X7_begin l dC dI fu (sh_ a1 47) (sh_ k1 47) H10.size x1 ((1 : Int64) <<< ((q10.2.2.2.1.2.2.2.1 x2.toNatClampNeg).toInt64 &&& 63)) x3 (0 : Int32) (1 : Int32) q10.2.2.2.2.2.2.2.2.1 q12 hq12) (cwV 5 hts gX9_send_X7_begin rfl rfl rfl (by decide +kernel) ⟨Nat.le_of_ble_eq_true rfl, Nat.le_of_ble_eq_true rfl⟩) (pf_v (hK.sub (tys' := zt_7 (sh_ k1 47)) [34, 35] rfl) (sub_P (sb_9__0c47 a1 k1 q10) hP10) (sub_D (sb_9__0c47 a1 k1 q10) hD10) 7 0 rfl rfl rfl) rfl rfl hl.1 rfl (lv_room (Nat.le_of_ble_eq_true rfl)) dX9_send_75 ⟨Nat.le_refl _, Nat.le_refl _⟩) hS10 (fun q _ h => (sub_F (sb_9__0c47 a1 k1 q10) hD10 hS10 hA) q h) (sub_F (sb_9__0c47 a1 k1 q10) hD10 hS10 hA) (fun v12 t12 H12 locs12 ht12 hvm12 hw12 hB12 hz12 hk12 hS12 => ?_)
            subst hw12
            obtain ⟨hP12, hD12⟩ := jn_sub (sb_9__0c47 a1 k1 q10) (jo_9__0c47__0 a1 k1 q10 q12) rfl hP10 hD10 hk12 ht12 hB12
            have hP12 : va_P (dC, dI) vwCl (zc_9 a1 k1 (q10.1, q10.2.1, q10.2.2.1, q10.2.2.2.1, q10.2.2.2.2.1, q10.2.2.2.2.2.1, q10.2.2.2.2.2.2.1, q10.2.2.2.2.2.2.2.1, q12, q10.2.2.2.2.2.2.2.2.2)) H12 := hP12
            have hD12 : va_D A (zc_9 a1 k1 (q10.1, q10.2.1, q10.2.2.1, q10.2.2.2.1, q10.2.2.2.2.1, q10.2.2.2.2.2.1, q10.2.2.2.2.2.2.1, q10.2.2.2.2.2.2.2.1, q12, q10.2.2.2.2.2.2.2.2.2)) := hD12
            clear hP10 hD10 hS10 hB12 hk12 hvm12 hz12 ht12
            refine lv_aload_n hx hb dX9_send_78 rfl (lv_at hl 0 rfl) ?_
            refine lv_iconst (v := (0 : Int32)) hx hb dX9_send_79 (by decide) ?_
            refine lv_iconst (v := (0 : Int32)) hx hb dX9_send_80 (by decide) ?_
            refine lv_iconst (v := (0 : Int32)) hx hb dX9_send_81 (by decide) ?_
            have hR0 := ob_ok hR
            clear hR
            obtain ⟨q13, hq13, hR⟩ := hR0
            refine va_callv (va_runV (As := [.int (0 : Int32), .int (0 : Int32), .int (0 : Int32)]) (rest := []) ⟨hx, hb, hml, hown, hts⟩ (cc_X9_seek l dC dI fu 8 a1 k1 H12.size (0 : Int32) (0 : Int32) (0 : Int32) (q10.1, q10.2.1, q10.2.2.1, q10.2.2.2.1, q10.2.2.2.2.1, q10.2.2.2.2.2.1, q10.2.2.2.2.2.2.1, q10.2.2.2.2.2.2.2.1, q12, q10.2.2.2.2.2.2.2.2.2) q13 hq13) (cwV 3 hts gX9_send_X9_seek rfl rfl rfl (by decide +kernel) ⟨Nat.le_of_ble_eq_true rfl, Nat.le_of_ble_eq_true rfl⟩) (pf_v hK hP12 hD12 9 0 rfl rfl rfl) rfl rfl hl.1 rfl (lv_room (Nat.le_of_ble_eq_true rfl)) dX9_send_82 ⟨Nat.le_refl _, Nat.le_refl _⟩) hS12 (fun q _ h => (fr_all hD12 hS12 hA) q h) (fr_all hD12 hS12 hA) (fun v13 t13 H13 locs13 ht13 hvm13 hw13 hB13 hz13 hk13 hS13 => ?_)
            subst hw13
            obtain ⟨hP13, hD13⟩ := jn_all hD12 hS12 hA ht13 hB13
            have hP13 : va_P (dC, dI) vwCl (zc_9 a1 k1 q13) H13 := hP13
            have hD13 : va_D A (zc_9 a1 k1 q13) := hD13
            clear hP12 hD12 hS12 hB13 hk13 hvm13 hz13 ht13
            refine lv_aload_n hx hb dX9_send_85 rfl (lv_at hl 0 rfl) ?_
            refine va_get (D := (dC, dI)) (ci := 9) (v := .ref (a1 47)) (C := RX9) (T := TX9) (N := 14) hx hb hts hin9 hown hK hP13 0 rfl rfl 8 (by decide) (hts (.fieldLink RX9 46 "OldestCoins" "tour" "LOldestCoins$Tour;") (List.mem_of_getElem? (i := 4) rfl)) (fun _ h9 => h9) rfl dX9_send_86 ?_
            refine va_get (D := (dC, dI)) (ci := 7) (v := .int q13.2.2.2.2.2.2.2.2.1.2.1) (C := RX7) (T := TX7) (N := 7) hx hb hts hin7 hown hK hP13 47 rfl rfl 1 (by decide) (hts (.fieldLink RX9 252 "OldestCoins$Tour" "best" "I") (List.mem_of_getElem? (i := 7) rfl)) (fun _ h9 => h9) rfl dX9_send_89 ?_
            refine lv_if_ne (tgt := 100) hx hb dX9_send_92 (by decide) (fun c14 => ?_) (fun c14 => ?_)
            · replace hR := ifn_ hR c14
              refine lv_aload_n hx hb dX9_send_100 rfl (lv_at hl 0 rfl) ?_
              refine va_get (D := (dC, dI)) (ci := 9) (v := .ref (a1 47)) (C := RX9) (T := TX9) (N := 14) hx hb hts hin9 hown hK hP13 0 rfl rfl 8 (by decide) (hts (.fieldLink RX9 46 "OldestCoins" "tour" "LOldestCoins$Tour;") (List.mem_of_getElem? (i := 4) rfl)) (fun _ h9 => h9) rfl dX9_send_101 ?_
              refine va_get (D := (dC, dI)) (ci := 7) (v := .ref (a1 49)) (C := RX7) (T := TX7) (N := 7) hx hb hts hin7 hown hK hP13 47 rfl rfl 4 (by decide) (hts (.fieldLink RX9 255 "OldestCoins$Tour" "found" "[I") (List.mem_of_getElem? (i := 8) rfl)) (fun _ h9 => h9) rfl dX9_send_104 ?_
              refine lv_iload hx hb dX9_send_107 (lv_at hl 4 rfl) ?_
              have i15 := (ck_ok hR).1
              replace hR := (ck_ok hR).2
              refine va_iald (f := q13.2.2.2.2.2.2.2.2.1.2.2.2.2.1) hx hb hK hP13 49 35 rfl rfl i15 dX9_send_109 ?_
              subst hQe
              exact W.iret (v := (q13.2.2.2.2.2.2.2.2.1.2.2.2.2.1 x4.toNatClampNeg)) hx hb hr (fun t ht hW => ⟨⟨(q13.2.2.2.2.2.2.2.2.1.2.2.2.2.1 x4.toNatClampNeg), q13, rfl, (Option.some.inj hR).symm, by rw [ht]; exact hP13, va_K.moved hW.alike hK, hD13⟩, hS13.F ht⟩) hS13.2.2 dX9_send_110
            · replace hR := ifp_ hR c14
              refine lv_bipush (v := (-4 : Int32)) hx hb dX9_send_95 (by decide) ?_
              refine lv_goto (tgt := 110) hx hb dX9_send_97 (by decide) ?_
              subst hQe
              exact W.iret (v := (-4 : Int32)) hx hb hr (fun t ht hW => ⟨⟨(-4 : Int32), q13, rfl, (Option.some.inj hR).symm, by rw [ht]; exact hP13, va_K.moved hW.alike hK, hD13⟩, hS13.F ht⟩) hS13.2.2 dX9_send_110
          · replace hR := ifn_ hR c9
            refine lv_bipush (v := (-4 : Int32)) hx hb dX9_send_49 (by decide) ?_
            subst hQe
            exact W.iret (v := (-4 : Int32)) hx hb hr (fun t ht hW => ⟨⟨(-4 : Int32), s1, rfl, (Option.some.inj hR).symm, by rw [ht]; exact hP7, va_K.moved hW.alike hK, hD7⟩, hS7.F ht⟩) hS7.2.2 dX9_send_51
        · replace hR := ifp_ hR c8
          refine lv_iconst (v := (-1 : Int32)) hx hb dX9_send_32 (by decide) ?_
          subst hQe
          exact W.iret (v := (-1 : Int32)) hx hb hr (fun t ht hW => ⟨⟨(-1 : Int32), s1, rfl, (Option.some.inj hR).symm, by rw [ht]; exact hP7, va_K.moved hW.alike hK, hD7⟩, hS7.F ht⟩) hS7.2.2 dX9_send_33
