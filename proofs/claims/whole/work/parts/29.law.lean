set_option maxRecDepth 100000 in
set_option maxHeartbeats 8000000 in
theorem bk_L_law {d : Nat} {I : HI} {Q : Option AV → AH → Prop} {L : Nat} {xs : Nat → Int32} {i : Int} (h : (L : Int) ≤ 2147483647 ∧ (-2147483648 ≤ (L : Int) - 6 ∧ (L : Int) - 6 ≤ 2147483647) ∧ ((((L : Int) - 6) < i → Q (some (vI 1)) (mk I)) ∧ (¬ (((L : Int) - 6) < i) → ((0 : Int) ≤ i ∧ (i : Int) < L) ∧ ((((oA ((xs i.toNat).toInt) 63) < 0 ∨ 37 < (oA ((xs i.toNat).toInt) 63)) → (-2147483648 ≤ i + 6 ∧ i + 6 ≤ 2147483647) ∧ J (some (L, xs)) mL_law (d + 1) 0 0 18 [(0, vX), (1, vR 0), (2, vR 489), (3, vI (i + 6))] [] (mk I) Q) ∧ ((oA ((xs i.toNat).toInt) 63) = 0 → (-2147483648 ≤ i + 1 ∧ i + 1 ≤ 2147483647) ∧ ((0 : Int) ≤ (i + 1) ∧ (i + 1 : Int) < L) ∧ (-2147483648 ≤ i + 2 ∧ i + 2 ≤ 2147483647) ∧ ((0 : Int) ≤ (i + 2) ∧ (i + 2 : Int) < L) ∧ (-2147483648 ≤ i + 3 ∧ i + 3 ≤ 2147483647) ∧ ((0 : Int) ≤ (i + 3) ∧ (i + 3 : Int) < L) ∧ (-2147483648 ≤ i + 4 ∧ i + 4 ≤ 2147483647) ∧ ((0 : Int) ≤ (i + 4) ∧ (i + 4 : Int) < L) ∧ (-2147483648 ≤ i + 5 ∧ i + 5 ≤ 2147483647) ∧ ((0 : Int) ≤ (i + 5) ∧ (i + 5 : Int) < L) ∧ CI mX10_feed d [vR 0, vI ((xs (i + 1).toNat).toInt), vI ((xs (i + 2).toNat).toInt), vI ((xs (i + 3).toNat).toInt), vI ((xs (i + 4).toNat).toInt), vI ((xs (i + 5).toNat).toInt)] I (fun x1 I1 => (-2147483648 ≤ i + 1 ∧ i + 1 ≤ 2147483647) ∧ ((0 : Int) ≤ (i + 1) ∧ (i + 1 : Int) < L) ∧ (-2147483648 ≤ i + 2 ∧ i + 2 ≤ 2147483647) ∧ ((0 : Int) ≤ (i + 2) ∧ (i + 2 : Int) < L) ∧ (-2147483648 ≤ i + 3 ∧ i + 3 ≤ 2147483647) ∧ ((0 : Int) ≤ (i + 3) ∧ (i + 3 : Int) < L) ∧ (-2147483648 ≤ i + 4 ∧ i + 4 ≤ 2147483647) ∧ ((0 : Int) ≤ (i + 4) ∧ (i + 4 : Int) < L) ∧ (-2147483648 ≤ i + 5 ∧ i + 5 ≤ 2147483647) ∧ ((0 : Int) ≤ (i + 5) ∧ (i + 5 : Int) < L) ∧ CI mX11_feed d [vR 489, vI ((xs (i + 1).toNat).toInt), vI ((xs (i + 2).toNat).toInt), vI ((xs (i + 3).toNat).toInt), vI ((xs (i + 4).toNat).toInt), vI ((xs (i + 5).toNat).toInt)] I1 (fun x2 I2 => ((x1 = x2 → (-2147483648 ≤ i + 6 ∧ i + 6 ≤ 2147483647) ∧ J (some (L, xs)) mL_law (d + 1) 0 0 18 [(0, vX), (1, vR 0), (2, vR 489), (3, vI (i + 6))] [] (mk I2) Q) ∧ (¬ (x1 = x2) → Q (some (vI 0)) (mk I2)))))) ∧ ((oA ((xs i.toNat).toInt) 63) = 1 → (-2147483648 ≤ i + 1 ∧ i + 1 ≤ 2147483647) ∧ ((0 : Int) ≤ (i + 1) ∧ (i + 1 : Int) < L) ∧ CI mX10_end d [vR 0, vI ((xs (i + 1).toNat).toInt)] I (fun x3 I3 => (-2147483648 ≤ i + 1 ∧ i + 1 ≤ 2147483647) ∧ ((0 : Int) ≤ (i + 1) ∧ (i + 1 : Int) < L) ∧ CI mX11_end d [vR 489, vI ((xs (i + 1).toNat).toInt)] I3 (fun x4 I4 => ((x3 = x4 → (-2147483648 ≤ i + 6 ∧ i + 6 ≤ 2147483647) ∧ J (some (L, xs)) mL_law (d + 1) 0 0 18 [(0, vX), (1, vR 0), (2, vR 489), (3, vI (i + 6))] [] (mk I4) Q) ∧ (¬ (x3 = x4) → Q (some (vI 0)) (mk I4)))))) ∧ ((oA ((xs i.toNat).toInt) 63) = 2 → CI mX10_city d [vR 0] I (fun x5 I5 => CI mX11_city d [vR 489] I5 (fun x6 I6 => ((x5 = x6 → (-2147483648 ≤ i + 6 ∧ i + 6 ≤ 2147483647) ∧ J (some (L, xs)) mL_law (d + 1) 0 0 18 [(0, vX), (1, vR 0), (2, vR 489), (3, vI (i + 6))] [] (mk I6) Q) ∧ (¬ (x5 = x6) → Q (some (vI 0)) (mk I6)))))) ∧ ((oA ((xs i.toNat).toInt) 63) = 3 → (-2147483648 ≤ i + 1 ∧ i + 1 ≤ 2147483647) ∧ ((0 : Int) ≤ (i + 1) ∧ (i + 1 : Int) < L) ∧ CI mX10_fault d [vR 0, vI ((xs (i + 1).toNat).toInt)] I (fun x7 I7 => (-2147483648 ≤ i + 1 ∧ i + 1 ≤ 2147483647) ∧ ((0 : Int) ≤ (i + 1) ∧ (i + 1 : Int) < L) ∧ CI mX11_fault d [vR 489, vI ((xs (i + 1).toNat).toInt)] I7 (fun x8 I8 => ((x7 = x8 → (-2147483648 ≤ i + 6 ∧ i + 6 ≤ 2147483647) ∧ J (some (L, xs)) mL_law (d + 1) 0 0 18 [(0, vX), (1, vR 0), (2, vR 489), (3, vI (i + 6))] [] (mk I8) Q) ∧ (¬ (x7 = x8) → Q (some (vI 0)) (mk I8)))))) ∧ ((oA ((xs i.toNat).toInt) 63) = 4 → (-2147483648 ≤ i + 1 ∧ i + 1 ≤ 2147483647) ∧ ((0 : Int) ≤ (i + 1) ∧ (i + 1 : Int) < L) ∧ CI mX10_has d [vR 0, vI ((xs (i + 1).toNat).toInt)] I (fun x9 I9 => (-2147483648 ≤ i + 1 ∧ i + 1 ≤ 2147483647) ∧ ((0 : Int) ≤ (i + 1) ∧ (i + 1 : Int) < L) ∧ CI mX11_has d [vR 489, vI ((xs (i + 1).toNat).toInt)] I9 (fun x10 I10 => ((x9 = x10 → (-2147483648 ≤ i + 6 ∧ i + 6 ≤ 2147483647) ∧ J (some (L, xs)) mL_law (d + 1) 0 0 18 [(0, vX), (1, vR 0), (2, vR 489), (3, vI (i + 6))] [] (mk I10) Q) ∧ (¬ (x9 = x10) → Q (some (vI 0)) (mk I10)))))) ∧ ((oA ((xs i.toNat).toInt) 63) = 5 → (-2147483648 ≤ i + 1 ∧ i + 1 ≤ 2147483647) ∧ ((0 : Int) ≤ (i + 1) ∧ (i + 1 : Int) < L) ∧ (-2147483648 ≤ i + 2 ∧ i + 2 ≤ 2147483647) ∧ ((0 : Int) ≤ (i + 2) ∧ (i + 2 : Int) < L) ∧ (-2147483648 ≤ i + 3 ∧ i + 3 ≤ 2147483647) ∧ ((0 : Int) ≤ (i + 3) ∧ (i + 3 : Int) < L) ∧ CI mX10_letter d [vR 0, vI ((xs (i + 1).toNat).toInt), vI ((xs (i + 2).toNat).toInt), vI ((xs (i + 3).toNat).toInt)] I (fun x11 I11 => (-2147483648 ≤ i + 1 ∧ i + 1 ≤ 2147483647) ∧ ((0 : Int) ≤ (i + 1) ∧ (i + 1 : Int) < L) ∧ (-2147483648 ≤ i + 2 ∧ i + 2 ≤ 2147483647) ∧ ((0 : Int) ≤ (i + 2) ∧ (i + 2 : Int) < L) ∧ (-2147483648 ≤ i + 3 ∧ i + 3 ≤ 2147483647) ∧ ((0 : Int) ≤ (i + 3) ∧ (i + 3 : Int) < L) ∧ CI mX11_letter d [vR 489, vI ((xs (i + 1).toNat).toInt), vI ((xs (i + 2).toNat).toInt), vI ((xs (i + 3).toNat).toInt)] I11 (fun x12 I12 => ((x11 = x12 → (-2147483648 ≤ i + 6 ∧ i + 6 ≤ 2147483647) ∧ J (some (L, xs)) mL_law (d + 1) 0 0 18 [(0, vX), (1, vR 0), (2, vR 489), (3, vI (i + 6))] [] (mk I12) Q) ∧ (¬ (x11 = x12) → Q (some (vI 0)) (mk I12)))))) ∧ ((oA ((xs i.toNat).toInt) 63) = 6 → (-2147483648 ≤ i + 1 ∧ i + 1 ≤ 2147483647) ∧ ((0 : Int) ≤ (i + 1) ∧ (i + 1 : Int) < L) ∧ (-2147483648 ≤ i + 2 ∧ i + 2 ≤ 2147483647) ∧ ((0 : Int) ≤ (i + 2) ∧ (i + 2 : Int) < L) ∧ CI mX10_lane d [vR 0, vI ((xs (i + 1).toNat).toInt), vI ((xs (i + 2).toNat).toInt)] I (fun x13 I13 => (-2147483648 ≤ i + 1 ∧ i + 1 ≤ 2147483647) ∧ ((0 : Int) ≤ (i + 1) ∧ (i + 1 : Int) < L) ∧ (-2147483648 ≤ i + 2 ∧ i + 2 ≤ 2147483647) ∧ ((0 : Int) ≤ (i + 2) ∧ (i + 2 : Int) < L) ∧ CI mX11_lane d [vR 489, vI ((xs (i + 1).toNat).toInt), vI ((xs (i + 2).toNat).toInt)] I13 (fun x14 I14 => ((x13 = x14 → (-2147483648 ≤ i + 6 ∧ i + 6 ≤ 2147483647) ∧ J (some (L, xs)) mL_law (d + 1) 0 0 18 [(0, vX), (1, vR 0), (2, vR 489), (3, vI (i + 6))] [] (mk I14) Q) ∧ (¬ (x13 = x14) → Q (some (vI 0)) (mk I14)))))) ∧ ((oA ((xs i.toNat).toInt) 63) = 7 → (-2147483648 ≤ i + 1 ∧ i + 1 ≤ 2147483647) ∧ ((0 : Int) ≤ (i + 1) ∧ (i + 1 : Int) < L) ∧ (-2147483648 ≤ i + 2 ∧ i + 2 ≤ 2147483647) ∧ ((0 : Int) ≤ (i + 2) ∧ (i + 2 : Int) < L) ∧ CI mX10_sound d [vR 0, vI ((xs (i + 1).toNat).toInt), vI ((xs (i + 2).toNat).toInt)] I (fun x15 I15 => (-2147483648 ≤ i + 1 ∧ i + 1 ≤ 2147483647) ∧ ((0 : Int) ≤ (i + 1) ∧ (i + 1 : Int) < L) ∧ (-2147483648 ≤ i + 2 ∧ i + 2 ≤ 2147483647) ∧ ((0 : Int) ≤ (i + 2) ∧ (i + 2 : Int) < L) ∧ CI mX11_sound d [vR 489, vI ((xs (i + 1).toNat).toInt), vI ((xs (i + 2).toNat).toInt)] I15 (fun x16 I16 => ((x15 = x16 → (-2147483648 ≤ i + 6 ∧ i + 6 ≤ 2147483647) ∧ J (some (L, xs)) mL_law (d + 1) 0 0 18 [(0, vX), (1, vR 0), (2, vR 489), (3, vI (i + 6))] [] (mk I16) Q) ∧ (¬ (x15 = x16) → Q (some (vI 0)) (mk I16)))))) ∧ ((oA ((xs i.toNat).toInt) 63) = 8 → (-2147483648 ≤ i + 1 ∧ i + 1 ≤ 2147483647) ∧ ((0 : Int) ≤ (i + 1) ∧ (i + 1 : Int) < L) ∧ (-2147483648 ≤ i + 2 ∧ i + 2 ≤ 2147483647) ∧ ((0 : Int) ≤ (i + 2) ∧ (i + 2 : Int) < L) ∧ CI mX10_saint d [vR 0, vI ((xs (i + 1).toNat).toInt), vI ((xs (i + 2).toNat).toInt)] I (fun x17 I17 => (-2147483648 ≤ i + 1 ∧ i + 1 ≤ 2147483647) ∧ ((0 : Int) ≤ (i + 1) ∧ (i + 1 : Int) < L) ∧ (-2147483648 ≤ i + 2 ∧ i + 2 ≤ 2147483647) ∧ ((0 : Int) ≤ (i + 2) ∧ (i + 2 : Int) < L) ∧ CI mX11_saint d [vR 489, vI ((xs (i + 1).toNat).toInt), vI ((xs (i + 2).toNat).toInt)] I17 (fun x18 I18 => ((x17 = x18 → (-2147483648 ≤ i + 6 ∧ i + 6 ≤ 2147483647) ∧ J (some (L, xs)) mL_law (d + 1) 0 0 18 [(0, vX), (1, vR 0), (2, vR 489), (3, vI (i + 6))] [] (mk I18) Q) ∧ (¬ (x17 = x18) → Q (some (vI 0)) (mk I18)))))) ∧ ((oA ((xs i.toNat).toInt) 63) = 9 → (-2147483648 ≤ i + 1 ∧ i + 1 ≤ 2147483647) ∧ ((0 : Int) ≤ (i + 1) ∧ (i + 1 : Int) < L) ∧ (-2147483648 ≤ i + 2 ∧ i + 2 ≤ 2147483647) ∧ ((0 : Int) ≤ (i + 2) ∧ (i + 2 : Int) < L) ∧ CI mX10_go d [vR 0, vI ((xs (i + 1).toNat).toInt), vI ((xs (i + 2).toNat).toInt)] I (fun x19 I19 => (-2147483648 ≤ i + 1 ∧ i + 1 ≤ 2147483647) ∧ ((0 : Int) ≤ (i + 1) ∧ (i + 1 : Int) < L) ∧ (-2147483648 ≤ i + 2 ∧ i + 2 ≤ 2147483647) ∧ ((0 : Int) ≤ (i + 2) ∧ (i + 2 : Int) < L) ∧ CI mX11_go d [vR 489, vI ((xs (i + 1).toNat).toInt), vI ((xs (i + 2).toNat).toInt)] I19 (fun x20 I20 => ((x19 = x20 → (-2147483648 ≤ i + 6 ∧ i + 6 ≤ 2147483647) ∧ J (some (L, xs)) mL_law (d + 1) 0 0 18 [(0, vX), (1, vR 0), (2, vR 489), (3, vI (i + 6))] [] (mk I20) Q) ∧ (¬ (x19 = x20) → Q (some (vI 0)) (mk I20)))))) ∧ ((oA ((xs i.toNat).toInt) 63) = 10 → (-2147483648 ≤ i + 1 ∧ i + 1 ≤ 2147483647) ∧ ((0 : Int) ≤ (i + 1) ∧ (i + 1 : Int) < L) ∧ (-2147483648 ≤ i + 2 ∧ i + 2 ≤ 2147483647) ∧ ((0 : Int) ≤ (i + 2) ∧ (i + 2 : Int) < L) ∧ CI mX10_rest d [vR 0, vI ((xs (i + 1).toNat).toInt), vI ((xs (i + 2).toNat).toInt)] I (fun x21 I21 => (-2147483648 ≤ i + 1 ∧ i + 1 ≤ 2147483647) ∧ ((0 : Int) ≤ (i + 1) ∧ (i + 1 : Int) < L) ∧ (-2147483648 ≤ i + 2 ∧ i + 2 ≤ 2147483647) ∧ ((0 : Int) ≤ (i + 2) ∧ (i + 2 : Int) < L) ∧ CI mX11_rest d [vR 489, vI ((xs (i + 1).toNat).toInt), vI ((xs (i + 2).toNat).toInt)] I21 (fun x22 I22 => ((x21 = x22 → (-2147483648 ≤ i + 6 ∧ i + 6 ≤ 2147483647) ∧ J (some (L, xs)) mL_law (d + 1) 0 0 18 [(0, vX), (1, vR 0), (2, vR 489), (3, vI (i + 6))] [] (mk I22) Q) ∧ (¬ (x21 = x22) → Q (some (vI 0)) (mk I22)))))) ∧ ((oA ((xs i.toNat).toInt) 63) = 11 → (-2147483648 ≤ i + 1 ∧ i + 1 ≤ 2147483647) ∧ ((0 : Int) ≤ (i + 1) ∧ (i + 1 : Int) < L) ∧ CI mX10_clear d [vR 0, vI ((xs (i + 1).toNat).toInt)] I (fun x23 I23 => (-2147483648 ≤ i + 1 ∧ i + 1 ≤ 2147483647) ∧ ((0 : Int) ≤ (i + 1) ∧ (i + 1 : Int) < L) ∧ CI mX11_clear d [vR 489, vI ((xs (i + 1).toNat).toInt)] I23 (fun x24 I24 => ((x23 = x24 → (-2147483648 ≤ i + 6 ∧ i + 6 ≤ 2147483647) ∧ J (some (L, xs)) mL_law (d + 1) 0 0 18 [(0, vX), (1, vR 0), (2, vR 489), (3, vI (i + 6))] [] (mk I24) Q) ∧ (¬ (x23 = x24) → Q (some (vI 0)) (mk I24)))))) ∧ ((oA ((xs i.toNat).toInt) 63) = 12 → CI mX10_undo d [vR 0] I (fun x25 I25 => CI mX11_undo d [vR 489] I25 (fun x26 I26 => ((x25 = x26 → (-2147483648 ≤ i + 6 ∧ i + 6 ≤ 2147483647) ∧ J (some (L, xs)) mL_law (d + 1) 0 0 18 [(0, vX), (1, vR 0), (2, vR 489), (3, vI (i + 6))] [] (mk I26) Q) ∧ (¬ (x25 = x26) → Q (some (vI 0)) (mk I26)))))) ∧ ((oA ((xs i.toNat).toInt) 63) = 13 → (-2147483648 ≤ i + 1 ∧ i + 1 ≤ 2147483647) ∧ ((0 : Int) ≤ (i + 1) ∧ (i + 1 : Int) < L) ∧ (-2147483648 ≤ i + 2 ∧ i + 2 ≤ 2147483647) ∧ ((0 : Int) ≤ (i + 2) ∧ (i + 2 : Int) < L) ∧ CI mX10_where d [vR 0, vI ((xs (i + 1).toNat).toInt), vI ((xs (i + 2).toNat).toInt)] I (fun x27 I27 => (-2147483648 ≤ i + 1 ∧ i + 1 ≤ 2147483647) ∧ ((0 : Int) ≤ (i + 1) ∧ (i + 1 : Int) < L) ∧ (-2147483648 ≤ i + 2 ∧ i + 2 ≤ 2147483647) ∧ ((0 : Int) ≤ (i + 2) ∧ (i + 2 : Int) < L) ∧ CI mX11_where d [vR 489, vI ((xs (i + 1).toNat).toInt), vI ((xs (i + 2).toNat).toInt)] I27 (fun x28 I28 => ((x27 = x28 → (-2147483648 ≤ i + 6 ∧ i + 6 ≤ 2147483647) ∧ J (some (L, xs)) mL_law (d + 1) 0 0 18 [(0, vX), (1, vR 0), (2, vR 489), (3, vI (i + 6))] [] (mk I28) Q) ∧ (¬ (x27 = x28) → Q (some (vI 0)) (mk I28)))))) ∧ ((oA ((xs i.toNat).toInt) 63) = 14 → (-2147483648 ≤ i + 1 ∧ i + 1 ≤ 2147483647) ∧ ((0 : Int) ≤ (i + 1) ∧ (i + 1 : Int) < L) ∧ (-2147483648 ≤ i + 2 ∧ i + 2 ≤ 2147483647) ∧ ((0 : Int) ≤ (i + 2) ∧ (i + 2 : Int) < L) ∧ CI mX10_on d [vR 0, vI ((xs (i + 1).toNat).toInt), vI ((xs (i + 2).toNat).toInt)] I (fun x29 I29 => (-2147483648 ≤ i + 1 ∧ i + 1 ≤ 2147483647) ∧ ((0 : Int) ≤ (i + 1) ∧ (i + 1 : Int) < L) ∧ (-2147483648 ≤ i + 2 ∧ i + 2 ≤ 2147483647) ∧ ((0 : Int) ≤ (i + 2) ∧ (i + 2 : Int) < L) ∧ CI mX11_on d [vR 489, vI ((xs (i + 1).toNat).toInt), vI ((xs (i + 2).toNat).toInt)] I29 (fun x30 I30 => ((x29 = x30 → (-2147483648 ≤ i + 6 ∧ i + 6 ≤ 2147483647) ∧ J (some (L, xs)) mL_law (d + 1) 0 0 18 [(0, vX), (1, vR 0), (2, vR 489), (3, vI (i + 6))] [] (mk I30) Q) ∧ (¬ (x29 = x30) → Q (some (vI 0)) (mk I30)))))) ∧ ((oA ((xs i.toNat).toInt) 63) = 15 → (-2147483648 ≤ i + 1 ∧ i + 1 ≤ 2147483647) ∧ ((0 : Int) ≤ (i + 1) ∧ (i + 1 : Int) < L) ∧ (-2147483648 ≤ i + 2 ∧ i + 2 ≤ 2147483647) ∧ ((0 : Int) ≤ (i + 2) ∧ (i + 2 : Int) < L) ∧ CI mX10_petals d [vR 0, vI ((xs (i + 1).toNat).toInt), vI ((xs (i + 2).toNat).toInt)] I (fun x31 I31 => (-2147483648 ≤ i + 1 ∧ i + 1 ≤ 2147483647) ∧ ((0 : Int) ≤ (i + 1) ∧ (i + 1 : Int) < L) ∧ (-2147483648 ≤ i + 2 ∧ i + 2 ≤ 2147483647) ∧ ((0 : Int) ≤ (i + 2) ∧ (i + 2 : Int) < L) ∧ CI mX11_petals d [vR 489, vI ((xs (i + 1).toNat).toInt), vI ((xs (i + 2).toNat).toInt)] I31 (fun x32 I32 => ((x31 = x32 → (-2147483648 ≤ i + 6 ∧ i + 6 ≤ 2147483647) ∧ J (some (L, xs)) mL_law (d + 1) 0 0 18 [(0, vX), (1, vR 0), (2, vR 489), (3, vI (i + 6))] [] (mk I32) Q) ∧ (¬ (x31 = x32) → Q (some (vI 0)) (mk I32)))))) ∧ ((oA ((xs i.toNat).toInt) 63) = 16 → (-2147483648 ≤ i + 1 ∧ i + 1 ≤ 2147483647) ∧ ((0 : Int) ≤ (i + 1) ∧ (i + 1 : Int) < L) ∧ (-2147483648 ≤ i + 2 ∧ i + 2 ≤ 2147483647) ∧ ((0 : Int) ≤ (i + 2) ∧ (i + 2 : Int) < L) ∧ CI mX10_passes d [vR 0, vI ((xs (i + 1).toNat).toInt), vI ((xs (i + 2).toNat).toInt)] I (fun x33 I33 => (-2147483648 ≤ i + 1 ∧ i + 1 ≤ 2147483647) ∧ ((0 : Int) ≤ (i + 1) ∧ (i + 1 : Int) < L) ∧ (-2147483648 ≤ i + 2 ∧ i + 2 ≤ 2147483647) ∧ ((0 : Int) ≤ (i + 2) ∧ (i + 2 : Int) < L) ∧ CI mX11_passes d [vR 489, vI ((xs (i + 1).toNat).toInt), vI ((xs (i + 2).toNat).toInt)] I33 (fun x34 I34 => ((x33 = x34 → (-2147483648 ≤ i + 6 ∧ i + 6 ≤ 2147483647) ∧ J (some (L, xs)) mL_law (d + 1) 0 0 18 [(0, vX), (1, vR 0), (2, vR 489), (3, vI (i + 6))] [] (mk I34) Q) ∧ (¬ (x33 = x34) → Q (some (vI 0)) (mk I34)))))) ∧ ((oA ((xs i.toNat).toInt) 63) = 17 → (-2147483648 ≤ i + 1 ∧ i + 1 ≤ 2147483647) ∧ ((0 : Int) ≤ (i + 1) ∧ (i + 1 : Int) < L) ∧ CI mX10_clash d [vR 0, vI ((xs (i + 1).toNat).toInt)] I (fun x35 I35 => (-2147483648 ≤ i + 1 ∧ i + 1 ≤ 2147483647) ∧ ((0 : Int) ≤ (i + 1) ∧ (i + 1 : Int) < L) ∧ CI mX11_clash d [vR 489, vI ((xs (i + 1).toNat).toInt)] I35 (fun x36 I36 => ((x35 = x36 → (-2147483648 ≤ i + 6 ∧ i + 6 ≤ 2147483647) ∧ J (some (L, xs)) mL_law (d + 1) 0 0 18 [(0, vX), (1, vR 0), (2, vR 489), (3, vI (i + 6))] [] (mk I36) Q) ∧ (¬ (x35 = x36) → Q (some (vI 0)) (mk I36)))))) ∧ ((oA ((xs i.toNat).toInt) 63) = 18 → (-2147483648 ≤ i + 1 ∧ i + 1 ≤ 2147483647) ∧ ((0 : Int) ≤ (i + 1) ∧ (i + 1 : Int) < L) ∧ CI mX10_clashes d [vR 0, vI ((xs (i + 1).toNat).toInt)] I (fun x37 I37 => (-2147483648 ≤ i + 1 ∧ i + 1 ≤ 2147483647) ∧ ((0 : Int) ≤ (i + 1) ∧ (i + 1 : Int) < L) ∧ CI mX11_clashes d [vR 489, vI ((xs (i + 1).toNat).toInt)] I37 (fun x38 I38 => ((x37 = x38 → (-2147483648 ≤ i + 6 ∧ i + 6 ≤ 2147483647) ∧ J (some (L, xs)) mL_law (d + 1) 0 0 18 [(0, vX), (1, vR 0), (2, vR 489), (3, vI (i + 6))] [] (mk I38) Q) ∧ (¬ (x37 = x38) → Q (some (vI 0)) (mk I38)))))) ∧ ((oA ((xs i.toNat).toInt) 63) = 19 → (-2147483648 ≤ i + 1 ∧ i + 1 ≤ 2147483647) ∧ ((0 : Int) ≤ (i + 1) ∧ (i + 1 : Int) < L) ∧ (-2147483648 ≤ i + 2 ∧ i + 2 ≤ 2147483647) ∧ ((0 : Int) ≤ (i + 2) ∧ (i + 2 : Int) < L) ∧ CI mX10_meet d [vR 0, vI ((xs (i + 1).toNat).toInt), vI ((xs (i + 2).toNat).toInt)] I (fun x39 I39 => (-2147483648 ≤ i + 1 ∧ i + 1 ≤ 2147483647) ∧ ((0 : Int) ≤ (i + 1) ∧ (i + 1 : Int) < L) ∧ (-2147483648 ≤ i + 2 ∧ i + 2 ≤ 2147483647) ∧ ((0 : Int) ≤ (i + 2) ∧ (i + 2 : Int) < L) ∧ CI mX11_meet d [vR 489, vI ((xs (i + 1).toNat).toInt), vI ((xs (i + 2).toNat).toInt)] I39 (fun x40 I40 => ((x39 = x40 → (-2147483648 ≤ i + 6 ∧ i + 6 ≤ 2147483647) ∧ J (some (L, xs)) mL_law (d + 1) 0 0 18 [(0, vX), (1, vR 0), (2, vR 489), (3, vI (i + 6))] [] (mk I40) Q) ∧ (¬ (x39 = x40) → Q (some (vI 0)) (mk I40)))))) ∧ ((oA ((xs i.toNat).toInt) 63) = 20 → CI mX10_pleased d [vR 0] I (fun x41 I41 => CI mX11_pleased d [vR 489] I41 (fun x42 I42 => ((x41 = x42 → (-2147483648 ≤ i + 6 ∧ i + 6 ≤ 2147483647) ∧ J (some (L, xs)) mL_law (d + 1) 0 0 18 [(0, vX), (1, vR 0), (2, vR 489), (3, vI (i + 6))] [] (mk I42) Q) ∧ (¬ (x41 = x42) → Q (some (vI 0)) (mk I42)))))) ∧ ((oA ((xs i.toNat).toInt) 63) = 21 → (-2147483648 ≤ i + 1 ∧ i + 1 ≤ 2147483647) ∧ ((0 : Int) ≤ (i + 1) ∧ (i + 1 : Int) < L) ∧ CI mX10_but d [vR 0, vI ((xs (i + 1).toNat).toInt)] I (fun x43 I43 => (-2147483648 ≤ i + 1 ∧ i + 1 ≤ 2147483647) ∧ ((0 : Int) ≤ (i + 1) ∧ (i + 1 : Int) < L) ∧ CI mX11_but d [vR 489, vI ((xs (i + 1).toNat).toInt)] I43 (fun x44 I44 => ((x43 = x44 → (-2147483648 ≤ i + 6 ∧ i + 6 ≤ 2147483647) ∧ J (some (L, xs)) mL_law (d + 1) 0 0 18 [(0, vX), (1, vR 0), (2, vR 489), (3, vI (i + 6))] [] (mk I44) Q) ∧ (¬ (x43 = x44) → Q (some (vI 0)) (mk I44)))))) ∧ ((oA ((xs i.toNat).toInt) 63) = 22 → (-2147483648 ≤ i + 1 ∧ i + 1 ≤ 2147483647) ∧ ((0 : Int) ≤ (i + 1) ∧ (i + 1 : Int) < L) ∧ CI mX10_words d [vR 0, vI ((xs (i + 1).toNat).toInt)] I (fun x45 I45 => (-2147483648 ≤ i + 1 ∧ i + 1 ≤ 2147483647) ∧ ((0 : Int) ≤ (i + 1) ∧ (i + 1 : Int) < L) ∧ CI mX11_words d [vR 489, vI ((xs (i + 1).toNat).toInt)] I45 (fun x46 I46 => ((x45 = x46 → (-2147483648 ≤ i + 6 ∧ i + 6 ≤ 2147483647) ∧ J (some (L, xs)) mL_law (d + 1) 0 0 18 [(0, vX), (1, vR 0), (2, vR 489), (3, vI (i + 6))] [] (mk I46) Q) ∧ (¬ (x45 = x46) → Q (some (vI 0)) (mk I46)))))) ∧ ((oA ((xs i.toNat).toInt) 63) = 23 → (-2147483648 ≤ i + 1 ∧ i + 1 ≤ 2147483647) ∧ ((0 : Int) ≤ (i + 1) ∧ (i + 1 : Int) < L) ∧ CI mX10_softer d [vR 0, vI ((xs (i + 1).toNat).toInt)] I (fun x47 I47 => (-2147483648 ≤ i + 1 ∧ i + 1 ≤ 2147483647) ∧ ((0 : Int) ≤ (i + 1) ∧ (i + 1 : Int) < L) ∧ CI mX11_softer d [vR 489, vI ((xs (i + 1).toNat).toInt)] I47 (fun x48 I48 => ((x47 = x48 → (-2147483648 ≤ i + 6 ∧ i + 6 ≤ 2147483647) ∧ J (some (L, xs)) mL_law (d + 1) 0 0 18 [(0, vX), (1, vR 0), (2, vR 489), (3, vI (i + 6))] [] (mk I48) Q) ∧ (¬ (x47 = x48) → Q (some (vI 0)) (mk I48)))))) ∧ ((oA ((xs i.toNat).toInt) 63) = 24 → (-2147483648 ≤ i + 1 ∧ i + 1 ≤ 2147483647) ∧ ((0 : Int) ≤ (i + 1) ∧ (i + 1 : Int) < L) ∧ (-2147483648 ≤ i + 2 ∧ i + 2 ≤ 2147483647) ∧ ((0 : Int) ≤ (i + 2) ∧ (i + 2 : Int) < L) ∧ ((((xs (i + 2).toNat).toInt) = 0 → CI mX10_shut d [vR 0, vI ((xs (i + 1).toNat).toInt), vI 0] I (fun x49 I49 => (-2147483648 ≤ i + 1 ∧ i + 1 ≤ 2147483647) ∧ ((0 : Int) ≤ (i + 1) ∧ (i + 1 : Int) < L) ∧ (-2147483648 ≤ i + 2 ∧ i + 2 ≤ 2147483647) ∧ ((0 : Int) ≤ (i + 2) ∧ (i + 2 : Int) < L) ∧ ((((xs (i + 2).toNat).toInt) = 0 → CI mX11_shut d [vR 489, vI ((xs (i + 1).toNat).toInt), vI 0] I49 (fun x50 I50 => ((x49 = x50 → (-2147483648 ≤ i + 6 ∧ i + 6 ≤ 2147483647) ∧ J (some (L, xs)) mL_law (d + 1) 0 0 18 [(0, vX), (1, vR 0), (2, vR 489), (3, vI (i + 6))] [] (mk I50) Q) ∧ (¬ (x49 = x50) → Q (some (vI 0)) (mk I50))))) ∧ (¬ (((xs (i + 2).toNat).toInt) = 0) → CI mX11_shut d [vR 489, vI ((xs (i + 1).toNat).toInt), vI 1] I49 (fun x51 I51 => ((x49 = x51 → (-2147483648 ≤ i + 6 ∧ i + 6 ≤ 2147483647) ∧ J (some (L, xs)) mL_law (d + 1) 0 0 18 [(0, vX), (1, vR 0), (2, vR 489), (3, vI (i + 6))] [] (mk I51) Q) ∧ (¬ (x49 = x51) → Q (some (vI 0)) (mk I51)))))))) ∧ (¬ (((xs (i + 2).toNat).toInt) = 0) → CI mX10_shut d [vR 0, vI ((xs (i + 1).toNat).toInt), vI 1] I (fun x52 I52 => (-2147483648 ≤ i + 1 ∧ i + 1 ≤ 2147483647) ∧ ((0 : Int) ≤ (i + 1) ∧ (i + 1 : Int) < L) ∧ (-2147483648 ≤ i + 2 ∧ i + 2 ≤ 2147483647) ∧ ((0 : Int) ≤ (i + 2) ∧ (i + 2 : Int) < L) ∧ ((((xs (i + 2).toNat).toInt) = 0 → CI mX11_shut d [vR 489, vI ((xs (i + 1).toNat).toInt), vI 0] I52 (fun x53 I53 => ((x52 = x53 → (-2147483648 ≤ i + 6 ∧ i + 6 ≤ 2147483647) ∧ J (some (L, xs)) mL_law (d + 1) 0 0 18 [(0, vX), (1, vR 0), (2, vR 489), (3, vI (i + 6))] [] (mk I53) Q) ∧ (¬ (x52 = x53) → Q (some (vI 0)) (mk I53))))) ∧ (¬ (((xs (i + 2).toNat).toInt) = 0) → CI mX11_shut d [vR 489, vI ((xs (i + 1).toNat).toInt), vI 1] I52 (fun x54 I54 => ((x52 = x54 → (-2147483648 ≤ i + 6 ∧ i + 6 ≤ 2147483647) ∧ J (some (L, xs)) mL_law (d + 1) 0 0 18 [(0, vX), (1, vR 0), (2, vR 489), (3, vI (i + 6))] [] (mk I54) Q) ∧ (¬ (x52 = x54) → Q (some (vI 0)) (mk I54)))))))))) ∧ ((oA ((xs i.toNat).toInt) 63) = 25 → (-2147483648 ≤ i + 1 ∧ i + 1 ≤ 2147483647) ∧ ((0 : Int) ≤ (i + 1) ∧ (i + 1 : Int) < L) ∧ CI mX10_sweep d [vR 0, vI ((xs (i + 1).toNat).toInt)] I (fun x55 I55 => (-2147483648 ≤ i + 1 ∧ i + 1 ≤ 2147483647) ∧ ((0 : Int) ≤ (i + 1) ∧ (i + 1 : Int) < L) ∧ CI mX11_sweep d [vR 489, vI ((xs (i + 1).toNat).toInt)] I55 (fun x56 I56 => ((x55 = x56 → (-2147483648 ≤ i + 6 ∧ i + 6 ≤ 2147483647) ∧ J (some (L, xs)) mL_law (d + 1) 0 0 18 [(0, vX), (1, vR 0), (2, vR 489), (3, vI (i + 6))] [] (mk I56) Q) ∧ (¬ (x55 = x56) → Q (some (vI 0)) (mk I56)))))) ∧ ((oA ((xs i.toNat).toInt) 63) = 26 → (-2147483648 ≤ i + 1 ∧ i + 1 ≤ 2147483647) ∧ ((0 : Int) ≤ (i + 1) ∧ (i + 1 : Int) < L) ∧ CI mX10_routes d [vR 0, vI ((xs (i + 1).toNat).toInt)] I (fun x57 I57 => (-2147483648 ≤ i + 1 ∧ i + 1 ≤ 2147483647) ∧ ((0 : Int) ≤ (i + 1) ∧ (i + 1 : Int) < L) ∧ CI mX11_routes d [vR 489, vI ((xs (i + 1).toNat).toInt)] I57 (fun x58 I58 => ((x57 = x58 → (-2147483648 ≤ i + 6 ∧ i + 6 ≤ 2147483647) ∧ J (some (L, xs)) mL_law (d + 1) 0 0 18 [(0, vX), (1, vR 0), (2, vR 489), (3, vI (i + 6))] [] (mk I58) Q) ∧ (¬ (x57 = x58) → Q (some (vI 0)) (mk I58)))))) ∧ ((oA ((xs i.toNat).toInt) 63) = 27 → (-2147483648 ≤ i + 1 ∧ i + 1 ≤ 2147483647) ∧ ((0 : Int) ≤ (i + 1) ∧ (i + 1 : Int) < L) ∧ (-2147483648 ≤ i + 2 ∧ i + 2 ≤ 2147483647) ∧ ((0 : Int) ≤ (i + 2) ∧ (i + 2 : Int) < L) ∧ (-2147483648 ≤ i + 3 ∧ i + 3 ≤ 2147483647) ∧ ((0 : Int) ≤ (i + 3) ∧ (i + 3 : Int) < L) ∧ CI mX10_route d [vR 0, vI ((xs (i + 1).toNat).toInt), vI ((xs (i + 2).toNat).toInt), vI ((xs (i + 3).toNat).toInt)] I (fun x59 I59 => (-2147483648 ≤ i + 1 ∧ i + 1 ≤ 2147483647) ∧ ((0 : Int) ≤ (i + 1) ∧ (i + 1 : Int) < L) ∧ (-2147483648 ≤ i + 2 ∧ i + 2 ≤ 2147483647) ∧ ((0 : Int) ≤ (i + 2) ∧ (i + 2 : Int) < L) ∧ (-2147483648 ≤ i + 3 ∧ i + 3 ≤ 2147483647) ∧ ((0 : Int) ≤ (i + 3) ∧ (i + 3 : Int) < L) ∧ CI mX11_route d [vR 489, vI ((xs (i + 1).toNat).toInt), vI ((xs (i + 2).toNat).toInt), vI ((xs (i + 3).toNat).toInt)] I59 (fun x60 I60 => ((x59 = x60 → (-2147483648 ≤ i + 6 ∧ i + 6 ≤ 2147483647) ∧ J (some (L, xs)) mL_law (d + 1) 0 0 18 [(0, vX), (1, vR 0), (2, vR 489), (3, vI (i + 6))] [] (mk I60) Q) ∧ (¬ (x59 = x60) → Q (some (vI 0)) (mk I60)))))) ∧ ((oA ((xs i.toNat).toInt) 63) = 28 → (-2147483648 ≤ i + 1 ∧ i + 1 ≤ 2147483647) ∧ ((0 : Int) ≤ (i + 1) ∧ (i + 1 : Int) < L) ∧ CI mX10_together d [vR 0, vI ((xs (i + 1).toNat).toInt)] I (fun x61 I61 => (-2147483648 ≤ i + 1 ∧ i + 1 ≤ 2147483647) ∧ ((0 : Int) ≤ (i + 1) ∧ (i + 1 : Int) < L) ∧ CI mX11_together d [vR 489, vI ((xs (i + 1).toNat).toInt)] I61 (fun x62 I62 => ((x61 = x62 → (-2147483648 ≤ i + 6 ∧ i + 6 ≤ 2147483647) ∧ J (some (L, xs)) mL_law (d + 1) 0 0 18 [(0, vX), (1, vR 0), (2, vR 489), (3, vI (i + 6))] [] (mk I62) Q) ∧ (¬ (x61 = x62) → Q (some (vI 0)) (mk I62)))))) ∧ ((oA ((xs i.toNat).toInt) 63) = 29 → CI mX10_bars d [vR 0] I (fun x63 I63 => CI mX11_bars d [vR 489] I63 (fun x64 I64 => ((x63 = x64 → (-2147483648 ≤ i + 6 ∧ i + 6 ≤ 2147483647) ∧ J (some (L, xs)) mL_law (d + 1) 0 0 18 [(0, vX), (1, vR 0), (2, vR 489), (3, vI (i + 6))] [] (mk I64) Q) ∧ (¬ (x63 = x64) → Q (some (vI 0)) (mk I64)))))) ∧ ((oA ((xs i.toNat).toInt) 63) = 30 → CI mX10_take d [vR 0] I (fun x65 I65 => CI mX11_take d [vR 489] I65 (fun x66 I66 => ((x65 = x66 → (-2147483648 ≤ i + 6 ∧ i + 6 ≤ 2147483647) ∧ J (some (L, xs)) mL_law (d + 1) 0 0 18 [(0, vX), (1, vR 0), (2, vR 489), (3, vI (i + 6))] [] (mk I66) Q) ∧ (¬ (x65 = x66) → Q (some (vI 0)) (mk I66)))))) ∧ ((oA ((xs i.toNat).toInt) 63) = 31 → CI mX10_mend d [vR 0] I (fun x67 I67 => CI mX11_mend d [vR 489] I67 (fun x68 I68 => ((x67 = x68 → (-2147483648 ≤ i + 6 ∧ i + 6 ≤ 2147483647) ∧ J (some (L, xs)) mL_law (d + 1) 0 0 18 [(0, vX), (1, vR 0), (2, vR 489), (3, vI (i + 6))] [] (mk I68) Q) ∧ (¬ (x67 = x68) → Q (some (vI 0)) (mk I68)))))) ∧ ((oA ((xs i.toNat).toInt) 63) = 32 → CI mX10_turn d [vR 0] I (fun x69 I69 => CI mX11_turn d [vR 489] I69 (fun x70 I70 => ((x69 = x70 → (-2147483648 ≤ i + 6 ∧ i + 6 ≤ 2147483647) ∧ J (some (L, xs)) mL_law (d + 1) 0 0 18 [(0, vX), (1, vR 0), (2, vR 489), (3, vI (i + 6))] [] (mk I70) Q) ∧ (¬ (x69 = x70) → Q (some (vI 0)) (mk I70)))))) ∧ ((oA ((xs i.toNat).toInt) 63) = 33 → (-2147483648 ≤ i + 1 ∧ i + 1 ≤ 2147483647) ∧ ((0 : Int) ≤ (i + 1) ∧ (i + 1 : Int) < L) ∧ CI mX10_lots d [vR 0, vI ((xs (i + 1).toNat).toInt)] I (fun x71 I71 => (-2147483648 ≤ i + 1 ∧ i + 1 ≤ 2147483647) ∧ ((0 : Int) ≤ (i + 1) ∧ (i + 1 : Int) < L) ∧ CI mX11_lots d [vR 489, vI ((xs (i + 1).toNat).toInt)] I71 (fun x72 I72 => ((x71 = x72 → (-2147483648 ≤ i + 6 ∧ i + 6 ≤ 2147483647) ∧ J (some (L, xs)) mL_law (d + 1) 0 0 18 [(0, vX), (1, vR 0), (2, vR 489), (3, vI (i + 6))] [] (mk I72) Q) ∧ (¬ (x71 = x72) → Q (some (vI 0)) (mk I72)))))) ∧ ((oA ((xs i.toNat).toInt) 63) = 34 → (-2147483648 ≤ i + 1 ∧ i + 1 ≤ 2147483647) ∧ ((0 : Int) ≤ (i + 1) ∧ (i + 1 : Int) < L) ∧ (-2147483648 ≤ i + 2 ∧ i + 2 ≤ 2147483647) ∧ ((0 : Int) ≤ (i + 2) ∧ (i + 2 : Int) < L) ∧ (-2147483648 ≤ i + 3 ∧ i + 3 ≤ 2147483647) ∧ ((0 : Int) ≤ (i + 3) ∧ (i + 3 : Int) < L) ∧ CI mX10_dawn d [vR 0, vI ((xs (i + 1).toNat).toInt), vI ((xs (i + 2).toNat).toInt), vI ((xs (i + 3).toNat).toInt)] I (fun x73 I73 => (-2147483648 ≤ i + 1 ∧ i + 1 ≤ 2147483647) ∧ ((0 : Int) ≤ (i + 1) ∧ (i + 1 : Int) < L) ∧ (-2147483648 ≤ i + 2 ∧ i + 2 ≤ 2147483647) ∧ ((0 : Int) ≤ (i + 2) ∧ (i + 2 : Int) < L) ∧ (-2147483648 ≤ i + 3 ∧ i + 3 ≤ 2147483647) ∧ ((0 : Int) ≤ (i + 3) ∧ (i + 3 : Int) < L) ∧ CI mX11_dawn d [vR 489, vI ((xs (i + 1).toNat).toInt), vI ((xs (i + 2).toNat).toInt), vI ((xs (i + 3).toNat).toInt)] I73 (fun x74 I74 => ((x73 = x74 → (-2147483648 ≤ i + 6 ∧ i + 6 ≤ 2147483647) ∧ J (some (L, xs)) mL_law (d + 1) 0 0 18 [(0, vX), (1, vR 0), (2, vR 489), (3, vI (i + 6))] [] (mk I74) Q) ∧ (¬ (x73 = x74) → Q (some (vI 0)) (mk I74)))))) ∧ ((oA ((xs i.toNat).toInt) 63) = 35 → CI mX10_image d [vR 0] I (fun x75 I75 => CI mX11_image d [vR 489] I75 (fun x76 I76 => ((x75 = x76 → (-2147483648 ≤ i + 6 ∧ i + 6 ≤ 2147483647) ∧ J (some (L, xs)) mL_law (d + 1) 0 0 18 [(0, vX), (1, vR 0), (2, vR 489), (3, vI (i + 6))] [] (mk I76) Q) ∧ (¬ (x75 = x76) → Q (some (vI 0)) (mk I76)))))) ∧ ((oA ((xs i.toNat).toInt) 63) = 36 → (-2147483648 ≤ i + 1 ∧ i + 1 ≤ 2147483647) ∧ ((0 : Int) ≤ (i + 1) ∧ (i + 1 : Int) < L) ∧ CI mX10_octet d [vR 0, vI ((xs (i + 1).toNat).toInt)] I (fun x77 I77 => (-2147483648 ≤ i + 1 ∧ i + 1 ≤ 2147483647) ∧ ((0 : Int) ≤ (i + 1) ∧ (i + 1 : Int) < L) ∧ CI mX11_octet d [vR 489, vI ((xs (i + 1).toNat).toInt)] I77 (fun x78 I78 => ((x77 = x78 → (-2147483648 ≤ i + 6 ∧ i + 6 ≤ 2147483647) ∧ J (some (L, xs)) mL_law (d + 1) 0 0 18 [(0, vX), (1, vR 0), (2, vR 489), (3, vI (i + 6))] [] (mk I78) Q) ∧ (¬ (x77 = x78) → Q (some (vI 0)) (mk I78)))))) ∧ ((oA ((xs i.toNat).toInt) 63) = 37 → CI mX10_back d [vR 0] I (fun x79 I79 => CI mX11_back d [vR 489] I79 (fun x80 I80 => ((x79 = x80 → (-2147483648 ≤ i + 6 ∧ i + 6 ≤ 2147483647) ∧ J (some (L, xs)) mL_law (d + 1) 0 0 18 [(0, vX), (1, vR 0), (2, vR 489), (3, vI (i + 6))] [] (mk I80) Q) ∧ (¬ (x79 = x80) → Q (some (vI 0)) (mk I80)))))))))) : J (some (L, xs)) mL_law (d + 1) 0 0 18 [(0, vX), (1, vR 0), (2, vR 489), (3, vI i)] [] (mk I) Q := by
  refine J_iload_n dL_law_18 rfl rfl ?_
  refine J_xload_n dL_law_19 rfl rfl ?_
  refine J_slen rfl dL_law_20 h.1 ?_
  replace h := h.2
  refine J_bipush dL_law_21 (ii_c rfl) (by decide) ?_
  refine J_isubN dL_law_23 h.1 ?_
  replace h := h.2
  refine J_ic_gt (tgt := 1216) dL_law_24 (by decide) (fun c => ?_) (fun c => ?_)
  · replace h := h.1 c
    refine J_iconst dL_law_1216 (ii_c rfl) ?_
    exact J_retz dL_law_1217 rfl (Or.inr rfl) h
  · replace h := h.2 c
    refine J_xload_n dL_law_27 rfl rfl ?_
    refine J_iload_n dL_law_28 rfl rfl ?_
    refine J_sld rfl dL_law_29 h.1.1 h.1.2 ?_
    replace h := h.2
    refine J_bipush dL_law_30 (ii_c rfl) (by decide) ?_
    refine J_iand dL_law_32 ?_
    rcases (show ((oA ((xs i.toNat).toInt) 63) < 0 ∨ 37 < (oA ((xs i.toNat).toInt) 63)) ∨ (oA ((xs i.toNat).toInt) 63) = 0 ∨ (oA ((xs i.toNat).toInt) 63) = 1 ∨ (oA ((xs i.toNat).toInt) 63) = 2 ∨ (oA ((xs i.toNat).toInt) 63) = 3 ∨ (oA ((xs i.toNat).toInt) 63) = 4 ∨ (oA ((xs i.toNat).toInt) 63) = 5 ∨ (oA ((xs i.toNat).toInt) 63) = 6 ∨ (oA ((xs i.toNat).toInt) 63) = 7 ∨ (oA ((xs i.toNat).toInt) 63) = 8 ∨ (oA ((xs i.toNat).toInt) 63) = 9 ∨ (oA ((xs i.toNat).toInt) 63) = 10 ∨ (oA ((xs i.toNat).toInt) 63) = 11 ∨ (oA ((xs i.toNat).toInt) 63) = 12 ∨ (oA ((xs i.toNat).toInt) 63) = 13 ∨ (oA ((xs i.toNat).toInt) 63) = 14 ∨ (oA ((xs i.toNat).toInt) 63) = 15 ∨ (oA ((xs i.toNat).toInt) 63) = 16 ∨ (oA ((xs i.toNat).toInt) 63) = 17 ∨ (oA ((xs i.toNat).toInt) 63) = 18 ∨ (oA ((xs i.toNat).toInt) 63) = 19 ∨ (oA ((xs i.toNat).toInt) 63) = 20 ∨ (oA ((xs i.toNat).toInt) 63) = 21 ∨ (oA ((xs i.toNat).toInt) 63) = 22 ∨ (oA ((xs i.toNat).toInt) 63) = 23 ∨ (oA ((xs i.toNat).toInt) 63) = 24 ∨ (oA ((xs i.toNat).toInt) 63) = 25 ∨ (oA ((xs i.toNat).toInt) 63) = 26 ∨ (oA ((xs i.toNat).toInt) 63) = 27 ∨ (oA ((xs i.toNat).toInt) 63) = 28 ∨ (oA ((xs i.toNat).toInt) 63) = 29 ∨ (oA ((xs i.toNat).toInt) 63) = 30 ∨ (oA ((xs i.toNat).toInt) 63) = 31 ∨ (oA ((xs i.toNat).toInt) 63) = 32 ∨ (oA ((xs i.toNat).toInt) 63) = 33 ∨ (oA ((xs i.toNat).toInt) 63) = 34 ∨ (oA ((xs i.toNat).toInt) 63) = 35 ∨ (oA ((xs i.toNat).toInt) 63) = 36 ∨ (oA ((xs i.toNat).toInt) 63) = 37 by omega) with c | c | c | c | c | c | c | c | c | c | c | c | c | c | c | c | c | c | c | c | c | c | c | c | c | c | c | c | c | c | c | c | c | c | c | c | c | c | c
    · replace h := h.1 c
      refine J_tabOut (x := oA ((xs i.toNat).toInt) 63) (tgt := 1210) dL_law_33 c (by decide) ?_
      refine J_iincN dL_law_1210 rfl (by decide) h.1 ?_
      replace h := h.2
      change J _ _ _ _ _ _ [(0, _), (1, _), (2, _), (3, _)] _ _ _
      refine J_goto (tgt := 18) dL_law_1213 (by decide) ?_
      exact h
    · replace h := h.2.1 c
      refine J_tabIn (x := oA ((xs i.toNat).toInt) 63) (tgt := 200) (off := 167) dL_law_33 (by omega) (by omega) (by rw [c]; rfl) (by decide) ?_
      refine J_aload_n dL_law_200 rfl rfl ?_
      refine J_xload_n dL_law_201 rfl rfl ?_
      refine J_iload_n dL_law_202 rfl rfl ?_
      refine J_iconst dL_law_203 (ii_c rfl) ?_
      refine J_iaddN dL_law_204 h.1 ?_
      replace h := h.2
      refine J_sld rfl dL_law_205 h.1.1 h.1.2 ?_
      replace h := h.2
      refine J_xload_n dL_law_206 rfl rfl ?_
      refine J_iload_n dL_law_207 rfl rfl ?_
      refine J_iconst dL_law_208 (ii_c rfl) ?_
      refine J_iaddN dL_law_209 h.1 ?_
      replace h := h.2
      refine J_sld rfl dL_law_210 h.1.1 h.1.2 ?_
      replace h := h.2
      refine J_xload_n dL_law_211 rfl rfl ?_
      refine J_iload_n dL_law_212 rfl rfl ?_
      refine J_iconst dL_law_213 (ii_c rfl) ?_
      refine J_iaddN dL_law_214 h.1 ?_
      replace h := h.2
      refine J_sld rfl dL_law_215 h.1.1 h.1.2 ?_
      replace h := h.2
      refine J_xload_n dL_law_216 rfl rfl ?_
      refine J_iload_n dL_law_217 rfl rfl ?_
      refine J_iconst dL_law_218 (ii_c rfl) ?_
      refine J_iaddN dL_law_219 h.1 ?_
      replace h := h.2
      refine J_sld rfl dL_law_220 h.1.1 h.1.2 ?_
      replace h := h.2
      refine J_xload_n dL_law_221 rfl rfl ?_
      refine J_iload_n dL_law_222 rfl rfl ?_
      refine J_iconst dL_law_223 (ii_c rfl) ?_
      refine J_iaddN dL_law_224 h.1 ?_
      replace h := h.2
      refine J_sld rfl dL_law_225 h.1.1 h.1.2 ?_
      replace h := h.2
      refine J_callV (as := [_, _, _, _, _]) (mc1 := 0) (ms1 := 0) (mc := 0) (ms := 0) dL_law_226 mv_X10_feed lk_L_13 sh_0 rfl (Nat.le_of_ble_eq_true rfl) (Nat.le_of_ble_eq_true rfl) h (fun r σ hq _ => ?_)
      obtain ⟨x1, I1, rfl, rfl, h⟩ := hq
      change J _ _ _ _ _ _ _ [vI x1] _ _
      refine J_aload_n dL_law_229 rfl rfl ?_
      refine J_xload_n dL_law_230 rfl rfl ?_
      refine J_iload_n dL_law_231 rfl rfl ?_
      refine J_iconst dL_law_232 (ii_c rfl) ?_
      refine J_iaddN dL_law_233 h.1 ?_
      replace h := h.2
      refine J_sld rfl dL_law_234 h.1.1 h.1.2 ?_
      replace h := h.2
      refine J_xload_n dL_law_235 rfl rfl ?_
      refine J_iload_n dL_law_236 rfl rfl ?_
      refine J_iconst dL_law_237 (ii_c rfl) ?_
      refine J_iaddN dL_law_238 h.1 ?_
      replace h := h.2
      refine J_sld rfl dL_law_239 h.1.1 h.1.2 ?_
      replace h := h.2
      refine J_xload_n dL_law_240 rfl rfl ?_
      refine J_iload_n dL_law_241 rfl rfl ?_
      refine J_iconst dL_law_242 (ii_c rfl) ?_
      refine J_iaddN dL_law_243 h.1 ?_
      replace h := h.2
      refine J_sld rfl dL_law_244 h.1.1 h.1.2 ?_
      replace h := h.2
      refine J_xload_n dL_law_245 rfl rfl ?_
      refine J_iload_n dL_law_246 rfl rfl ?_
      refine J_iconst dL_law_247 (ii_c rfl) ?_
      refine J_iaddN dL_law_248 h.1 ?_
      replace h := h.2
      refine J_sld rfl dL_law_249 h.1.1 h.1.2 ?_
      replace h := h.2
      refine J_xload_n dL_law_250 rfl rfl ?_
      refine J_iload_n dL_law_251 rfl rfl ?_
      refine J_iconst dL_law_252 (ii_c rfl) ?_
      refine J_iaddN dL_law_253 h.1 ?_
      replace h := h.2
      refine J_sld rfl dL_law_254 h.1.1 h.1.2 ?_
      replace h := h.2
      refine J_callV (as := [_, _, _, _, _]) (mc1 := 0) (ms1 := 0) (mc := 0) (ms := 0) dL_law_255 mv_X11_feed lk_L_17 sh_489 rfl (Nat.le_of_ble_eq_true rfl) (Nat.le_of_ble_eq_true rfl) h (fun r σ hq _ => ?_)
      obtain ⟨x2, I2, rfl, rfl, h⟩ := hq
      change J _ _ _ _ _ _ _ [vI x2, vI x1] _ _
      refine J_ic_eq (tgt := 1210) dL_law_258 (by decide) (fun c => ?_) (fun c => ?_)
      · replace h := h.1 c
        refine J_iincN dL_law_1210 rfl (by decide) h.1 ?_
        replace h := h.2
        change J _ _ _ _ _ _ [(0, _), (1, _), (2, _), (3, _)] _ _ _
        refine J_goto (tgt := 18) dL_law_1213 (by decide) ?_
        exact h
      · replace h := h.2 c
        refine J_iconst dL_law_261 (ii_c rfl) ?_
        exact J_retz dL_law_262 rfl (Or.inl rfl) h
    · replace h := h.2.2.1 c
      refine J_tabIn (x := oA ((xs i.toNat).toInt) 63) (tgt := 263) (off := 230) dL_law_33 (by omega) (by omega) (by rw [c]; rfl) (by decide) ?_
      refine J_aload_n dL_law_263 rfl rfl ?_
      refine J_xload_n dL_law_264 rfl rfl ?_
      refine J_iload_n dL_law_265 rfl rfl ?_
      refine J_iconst dL_law_266 (ii_c rfl) ?_
      refine J_iaddN dL_law_267 h.1 ?_
      replace h := h.2
      refine J_sld rfl dL_law_268 h.1.1 h.1.2 ?_
      replace h := h.2
      refine J_callV (as := [_]) (mc1 := 0) (ms1 := 0) (mc := 0) (ms := 0) dL_law_269 mv_X10_end lk_L_18 sh_0 rfl (Nat.le_of_ble_eq_true rfl) (Nat.le_of_ble_eq_true rfl) h (fun r σ hq _ => ?_)
      obtain ⟨x3, I3, rfl, rfl, h⟩ := hq
      change J _ _ _ _ _ _ _ [vI x3] _ _
      refine J_aload_n dL_law_272 rfl rfl ?_
      refine J_xload_n dL_law_273 rfl rfl ?_
      refine J_iload_n dL_law_274 rfl rfl ?_
      refine J_iconst dL_law_275 (ii_c rfl) ?_
      refine J_iaddN dL_law_276 h.1 ?_
      replace h := h.2
      refine J_sld rfl dL_law_277 h.1.1 h.1.2 ?_
      replace h := h.2
      refine J_callV (as := [_]) (mc1 := 0) (ms1 := 0) (mc := 0) (ms := 0) dL_law_278 mv_X11_end lk_L_22 sh_489 rfl (Nat.le_of_ble_eq_true rfl) (Nat.le_of_ble_eq_true rfl) h (fun r σ hq _ => ?_)
      obtain ⟨x4, I4, rfl, rfl, h⟩ := hq
      change J _ _ _ _ _ _ _ [vI x4, vI x3] _ _
      refine J_ic_eq (tgt := 1210) dL_law_281 (by decide) (fun c => ?_) (fun c => ?_)
      · replace h := h.1 c
        refine J_iincN dL_law_1210 rfl (by decide) h.1 ?_
        replace h := h.2
        change J _ _ _ _ _ _ [(0, _), (1, _), (2, _), (3, _)] _ _ _
        refine J_goto (tgt := 18) dL_law_1213 (by decide) ?_
        exact h
      · replace h := h.2 c
        refine J_iconst dL_law_284 (ii_c rfl) ?_
        exact J_retz dL_law_285 rfl (Or.inl rfl) h
    · replace h := h.2.2.2.1 c
      refine J_tabIn (x := oA ((xs i.toNat).toInt) 63) (tgt := 286) (off := 253) dL_law_33 (by omega) (by omega) (by rw [c]; rfl) (by decide) ?_
      refine J_aload_n dL_law_286 rfl rfl ?_
      refine J_callV (as := []) (mc1 := 0) (ms1 := 0) (mc := 0) (ms := 0) dL_law_287 mv_X10_city lk_L_23 sh_0 rfl (Nat.le_of_ble_eq_true rfl) (Nat.le_of_ble_eq_true rfl) h (fun r σ hq _ => ?_)
      obtain ⟨x5, I5, rfl, rfl, h⟩ := hq
      change J _ _ _ _ _ _ _ [vI x5] _ _
      refine J_aload_n dL_law_290 rfl rfl ?_
      refine J_callV (as := []) (mc1 := 0) (ms1 := 0) (mc := 0) (ms := 0) dL_law_291 mv_X11_city lk_L_27 sh_489 rfl (Nat.le_of_ble_eq_true rfl) (Nat.le_of_ble_eq_true rfl) h (fun r σ hq _ => ?_)
      obtain ⟨x6, I6, rfl, rfl, h⟩ := hq
      change J _ _ _ _ _ _ _ [vI x6, vI x5] _ _
      refine J_ic_eq (tgt := 1210) dL_law_294 (by decide) (fun c => ?_) (fun c => ?_)
      · replace h := h.1 c
        refine J_iincN dL_law_1210 rfl (by decide) h.1 ?_
        replace h := h.2
        change J _ _ _ _ _ _ [(0, _), (1, _), (2, _), (3, _)] _ _ _
        refine J_goto (tgt := 18) dL_law_1213 (by decide) ?_
        exact h
      · replace h := h.2 c
        refine J_iconst dL_law_297 (ii_c rfl) ?_
        exact J_retz dL_law_298 rfl (Or.inl rfl) h
    · replace h := h.2.2.2.2.1 c
      refine J_tabIn (x := oA ((xs i.toNat).toInt) 63) (tgt := 299) (off := 266) dL_law_33 (by omega) (by omega) (by rw [c]; rfl) (by decide) ?_
      refine J_aload_n dL_law_299 rfl rfl ?_
      refine J_xload_n dL_law_300 rfl rfl ?_
      refine J_iload_n dL_law_301 rfl rfl ?_
      refine J_iconst dL_law_302 (ii_c rfl) ?_
      refine J_iaddN dL_law_303 h.1 ?_
      replace h := h.2
      refine J_sld rfl dL_law_304 h.1.1 h.1.2 ?_
      replace h := h.2
      refine J_callV (as := [_]) (mc1 := 0) (ms1 := 0) (mc := 0) (ms := 0) dL_law_305 mv_X10_fault lk_L_28 sh_0 rfl (Nat.le_of_ble_eq_true rfl) (Nat.le_of_ble_eq_true rfl) h (fun r σ hq _ => ?_)
      obtain ⟨x7, I7, rfl, rfl, h⟩ := hq
      change J _ _ _ _ _ _ _ [vI x7] _ _
      refine J_aload_n dL_law_308 rfl rfl ?_
      refine J_xload_n dL_law_309 rfl rfl ?_
      refine J_iload_n dL_law_310 rfl rfl ?_
      refine J_iconst dL_law_311 (ii_c rfl) ?_
      refine J_iaddN dL_law_312 h.1 ?_
      replace h := h.2
      refine J_sld rfl dL_law_313 h.1.1 h.1.2 ?_
      replace h := h.2
      refine J_callV (as := [_]) (mc1 := 0) (ms1 := 0) (mc := 0) (ms := 0) dL_law_314 mv_X11_fault lk_L_32 sh_489 rfl (Nat.le_of_ble_eq_true rfl) (Nat.le_of_ble_eq_true rfl) h (fun r σ hq _ => ?_)
      obtain ⟨x8, I8, rfl, rfl, h⟩ := hq
      change J _ _ _ _ _ _ _ [vI x8, vI x7] _ _
      refine J_ic_eq (tgt := 1210) dL_law_317 (by decide) (fun c => ?_) (fun c => ?_)
      · replace h := h.1 c
        refine J_iincN dL_law_1210 rfl (by decide) h.1 ?_
        replace h := h.2
        change J _ _ _ _ _ _ [(0, _), (1, _), (2, _), (3, _)] _ _ _
        refine J_goto (tgt := 18) dL_law_1213 (by decide) ?_
        exact h
      · replace h := h.2 c
        refine J_iconst dL_law_320 (ii_c rfl) ?_
        exact J_retz dL_law_321 rfl (Or.inl rfl) h
    · replace h := h.2.2.2.2.2.1 c
      refine J_tabIn (x := oA ((xs i.toNat).toInt) 63) (tgt := 322) (off := 289) dL_law_33 (by omega) (by omega) (by rw [c]; rfl) (by decide) ?_
      refine J_aload_n dL_law_322 rfl rfl ?_
      refine J_xload_n dL_law_323 rfl rfl ?_
      refine J_iload_n dL_law_324 rfl rfl ?_
      refine J_iconst dL_law_325 (ii_c rfl) ?_
      refine J_iaddN dL_law_326 h.1 ?_
      replace h := h.2
      refine J_sld rfl dL_law_327 h.1.1 h.1.2 ?_
      replace h := h.2
      refine J_callV (as := [_]) (mc1 := 0) (ms1 := 0) (mc := 0) (ms := 0) dL_law_328 mv_X10_has lk_L_33 sh_0 rfl (Nat.le_of_ble_eq_true rfl) (Nat.le_of_ble_eq_true rfl) h (fun r σ hq _ => ?_)
      obtain ⟨x9, I9, rfl, rfl, h⟩ := hq
      change J _ _ _ _ _ _ _ [vI x9] _ _
      refine J_aload_n dL_law_331 rfl rfl ?_
      refine J_xload_n dL_law_332 rfl rfl ?_
      refine J_iload_n dL_law_333 rfl rfl ?_
      refine J_iconst dL_law_334 (ii_c rfl) ?_
      refine J_iaddN dL_law_335 h.1 ?_
      replace h := h.2
      refine J_sld rfl dL_law_336 h.1.1 h.1.2 ?_
      replace h := h.2
      refine J_callV (as := [_]) (mc1 := 0) (ms1 := 0) (mc := 0) (ms := 0) dL_law_337 mv_X11_has lk_L_36 sh_489 rfl (Nat.le_of_ble_eq_true rfl) (Nat.le_of_ble_eq_true rfl) h (fun r σ hq _ => ?_)
      obtain ⟨x10, I10, rfl, rfl, h⟩ := hq
      change J _ _ _ _ _ _ _ [vI x10, vI x9] _ _
      refine J_ic_eq (tgt := 1210) dL_law_340 (by decide) (fun c => ?_) (fun c => ?_)
      · replace h := h.1 c
        refine J_iincN dL_law_1210 rfl (by decide) h.1 ?_
        replace h := h.2
        change J _ _ _ _ _ _ [(0, _), (1, _), (2, _), (3, _)] _ _ _
        refine J_goto (tgt := 18) dL_law_1213 (by decide) ?_
        exact h
      · replace h := h.2 c
        refine J_iconst dL_law_343 (ii_c rfl) ?_
        exact J_retz dL_law_344 rfl (Or.inl rfl) h
    · replace h := h.2.2.2.2.2.2.1 c
      refine J_tabIn (x := oA ((xs i.toNat).toInt) 63) (tgt := 345) (off := 312) dL_law_33 (by omega) (by omega) (by rw [c]; rfl) (by decide) ?_
      refine J_aload_n dL_law_345 rfl rfl ?_
      refine J_xload_n dL_law_346 rfl rfl ?_
      refine J_iload_n dL_law_347 rfl rfl ?_
      refine J_iconst dL_law_348 (ii_c rfl) ?_
      refine J_iaddN dL_law_349 h.1 ?_
      replace h := h.2
      refine J_sld rfl dL_law_350 h.1.1 h.1.2 ?_
      replace h := h.2
      refine J_xload_n dL_law_351 rfl rfl ?_
      refine J_iload_n dL_law_352 rfl rfl ?_
      refine J_iconst dL_law_353 (ii_c rfl) ?_
      refine J_iaddN dL_law_354 h.1 ?_
      replace h := h.2
      refine J_sld rfl dL_law_355 h.1.1 h.1.2 ?_
      replace h := h.2
      refine J_xload_n dL_law_356 rfl rfl ?_
      refine J_iload_n dL_law_357 rfl rfl ?_
      refine J_iconst dL_law_358 (ii_c rfl) ?_
      refine J_iaddN dL_law_359 h.1 ?_
      replace h := h.2
      refine J_sld rfl dL_law_360 h.1.1 h.1.2 ?_
      replace h := h.2
      refine J_callV (as := [_, _, _]) (mc1 := 0) (ms1 := 0) (mc := 0) (ms := 0) dL_law_361 mv_X10_letter lk_L_37 sh_0 rfl (Nat.le_of_ble_eq_true rfl) (Nat.le_of_ble_eq_true rfl) h (fun r σ hq _ => ?_)
      obtain ⟨x11, I11, rfl, rfl, h⟩ := hq
      change J _ _ _ _ _ _ _ [vI x11] _ _
      refine J_aload_n dL_law_364 rfl rfl ?_
      refine J_xload_n dL_law_365 rfl rfl ?_
      refine J_iload_n dL_law_366 rfl rfl ?_
      refine J_iconst dL_law_367 (ii_c rfl) ?_
      refine J_iaddN dL_law_368 h.1 ?_
      replace h := h.2
      refine J_sld rfl dL_law_369 h.1.1 h.1.2 ?_
      replace h := h.2
      refine J_xload_n dL_law_370 rfl rfl ?_
      refine J_iload_n dL_law_371 rfl rfl ?_
      refine J_iconst dL_law_372 (ii_c rfl) ?_
      refine J_iaddN dL_law_373 h.1 ?_
      replace h := h.2
      refine J_sld rfl dL_law_374 h.1.1 h.1.2 ?_
      replace h := h.2
      refine J_xload_n dL_law_375 rfl rfl ?_
      refine J_iload_n dL_law_376 rfl rfl ?_
      refine J_iconst dL_law_377 (ii_c rfl) ?_
      refine J_iaddN dL_law_378 h.1 ?_
      replace h := h.2
      refine J_sld rfl dL_law_379 h.1.1 h.1.2 ?_
      replace h := h.2
      refine J_callV (as := [_, _, _]) (mc1 := 0) (ms1 := 0) (mc := 0) (ms := 0) dL_law_380 mv_X11_letter lk_L_41 sh_489 rfl (Nat.le_of_ble_eq_true rfl) (Nat.le_of_ble_eq_true rfl) h (fun r σ hq _ => ?_)
      obtain ⟨x12, I12, rfl, rfl, h⟩ := hq
      change J _ _ _ _ _ _ _ [vI x12, vI x11] _ _
      refine J_ic_eq (tgt := 1210) dL_law_383 (by decide) (fun c => ?_) (fun c => ?_)
      · replace h := h.1 c
        refine J_iincN dL_law_1210 rfl (by decide) h.1 ?_
        replace h := h.2
        change J _ _ _ _ _ _ [(0, _), (1, _), (2, _), (3, _)] _ _ _
        refine J_goto (tgt := 18) dL_law_1213 (by decide) ?_
        exact h
      · replace h := h.2 c
        refine J_iconst dL_law_386 (ii_c rfl) ?_
        exact J_retz dL_law_387 rfl (Or.inl rfl) h
    · replace h := h.2.2.2.2.2.2.2.1 c
      refine J_tabIn (x := oA ((xs i.toNat).toInt) 63) (tgt := 388) (off := 355) dL_law_33 (by omega) (by omega) (by rw [c]; rfl) (by decide) ?_
      refine J_aload_n dL_law_388 rfl rfl ?_
      refine J_xload_n dL_law_389 rfl rfl ?_
      refine J_iload_n dL_law_390 rfl rfl ?_
      refine J_iconst dL_law_391 (ii_c rfl) ?_
      refine J_iaddN dL_law_392 h.1 ?_
      replace h := h.2
      refine J_sld rfl dL_law_393 h.1.1 h.1.2 ?_
      replace h := h.2
      refine J_xload_n dL_law_394 rfl rfl ?_
      refine J_iload_n dL_law_395 rfl rfl ?_
      refine J_iconst dL_law_396 (ii_c rfl) ?_
      refine J_iaddN dL_law_397 h.1 ?_
      replace h := h.2
      refine J_sld rfl dL_law_398 h.1.1 h.1.2 ?_
      replace h := h.2
      refine J_callV (as := [_, _]) (mc1 := 0) (ms1 := 0) (mc := 0) (ms := 0) dL_law_399 mv_X10_lane lk_L_42 sh_0 rfl (Nat.le_of_ble_eq_true rfl) (Nat.le_of_ble_eq_true rfl) h (fun r σ hq _ => ?_)
      obtain ⟨x13, I13, rfl, rfl, h⟩ := hq
      change J _ _ _ _ _ _ _ [vI x13] _ _
      refine J_aload_n dL_law_402 rfl rfl ?_
      refine J_xload_n dL_law_403 rfl rfl ?_
      refine J_iload_n dL_law_404 rfl rfl ?_
      refine J_iconst dL_law_405 (ii_c rfl) ?_
      refine J_iaddN dL_law_406 h.1 ?_
      replace h := h.2
      refine J_sld rfl dL_law_407 h.1.1 h.1.2 ?_
      replace h := h.2
      refine J_xload_n dL_law_408 rfl rfl ?_
      refine J_iload_n dL_law_409 rfl rfl ?_
      refine J_iconst dL_law_410 (ii_c rfl) ?_
      refine J_iaddN dL_law_411 h.1 ?_
      replace h := h.2
      refine J_sld rfl dL_law_412 h.1.1 h.1.2 ?_
      replace h := h.2
      refine J_callV (as := [_, _]) (mc1 := 0) (ms1 := 0) (mc := 0) (ms := 0) dL_law_413 mv_X11_lane lk_L_46 sh_489 rfl (Nat.le_of_ble_eq_true rfl) (Nat.le_of_ble_eq_true rfl) h (fun r σ hq _ => ?_)
      obtain ⟨x14, I14, rfl, rfl, h⟩ := hq
      change J _ _ _ _ _ _ _ [vI x14, vI x13] _ _
      refine J_ic_eq (tgt := 1210) dL_law_416 (by decide) (fun c => ?_) (fun c => ?_)
      · replace h := h.1 c
        refine J_iincN dL_law_1210 rfl (by decide) h.1 ?_
        replace h := h.2
        change J _ _ _ _ _ _ [(0, _), (1, _), (2, _), (3, _)] _ _ _
        refine J_goto (tgt := 18) dL_law_1213 (by decide) ?_
        exact h
      · replace h := h.2 c
        refine J_iconst dL_law_419 (ii_c rfl) ?_
        exact J_retz dL_law_420 rfl (Or.inl rfl) h
    · replace h := h.2.2.2.2.2.2.2.2.1 c
      refine J_tabIn (x := oA ((xs i.toNat).toInt) 63) (tgt := 421) (off := 388) dL_law_33 (by omega) (by omega) (by rw [c]; rfl) (by decide) ?_
      refine J_aload_n dL_law_421 rfl rfl ?_
      refine J_xload_n dL_law_422 rfl rfl ?_
      refine J_iload_n dL_law_423 rfl rfl ?_
      refine J_iconst dL_law_424 (ii_c rfl) ?_
      refine J_iaddN dL_law_425 h.1 ?_
      replace h := h.2
      refine J_sld rfl dL_law_426 h.1.1 h.1.2 ?_
      replace h := h.2
      refine J_xload_n dL_law_427 rfl rfl ?_
      refine J_iload_n dL_law_428 rfl rfl ?_
      refine J_iconst dL_law_429 (ii_c rfl) ?_
      refine J_iaddN dL_law_430 h.1 ?_
      replace h := h.2
      refine J_sld rfl dL_law_431 h.1.1 h.1.2 ?_
      replace h := h.2
      refine J_callV (as := [_, _]) (mc1 := 0) (ms1 := 0) (mc := 0) (ms := 0) dL_law_432 mv_X10_sound lk_L_47 sh_0 rfl (Nat.le_of_ble_eq_true rfl) (Nat.le_of_ble_eq_true rfl) h (fun r σ hq _ => ?_)
      obtain ⟨x15, I15, rfl, rfl, h⟩ := hq
      change J _ _ _ _ _ _ _ [vI x15] _ _
      refine J_aload_n dL_law_435 rfl rfl ?_
      refine J_xload_n dL_law_436 rfl rfl ?_
      refine J_iload_n dL_law_437 rfl rfl ?_
      refine J_iconst dL_law_438 (ii_c rfl) ?_
      refine J_iaddN dL_law_439 h.1 ?_
      replace h := h.2
      refine J_sld rfl dL_law_440 h.1.1 h.1.2 ?_
      replace h := h.2
      refine J_xload_n dL_law_441 rfl rfl ?_
      refine J_iload_n dL_law_442 rfl rfl ?_
      refine J_iconst dL_law_443 (ii_c rfl) ?_
      refine J_iaddN dL_law_444 h.1 ?_
      replace h := h.2
      refine J_sld rfl dL_law_445 h.1.1 h.1.2 ?_
      replace h := h.2
      refine J_callV (as := [_, _]) (mc1 := 0) (ms1 := 0) (mc := 0) (ms := 0) dL_law_446 mv_X11_sound lk_L_50 sh_489 rfl (Nat.le_of_ble_eq_true rfl) (Nat.le_of_ble_eq_true rfl) h (fun r σ hq _ => ?_)
      obtain ⟨x16, I16, rfl, rfl, h⟩ := hq
      change J _ _ _ _ _ _ _ [vI x16, vI x15] _ _
      refine J_ic_eq (tgt := 1210) dL_law_449 (by decide) (fun c => ?_) (fun c => ?_)
      · replace h := h.1 c
        refine J_iincN dL_law_1210 rfl (by decide) h.1 ?_
        replace h := h.2
        change J _ _ _ _ _ _ [(0, _), (1, _), (2, _), (3, _)] _ _ _
        refine J_goto (tgt := 18) dL_law_1213 (by decide) ?_
        exact h
      · replace h := h.2 c
        refine J_iconst dL_law_452 (ii_c rfl) ?_
        exact J_retz dL_law_453 rfl (Or.inl rfl) h
    · replace h := h.2.2.2.2.2.2.2.2.2.1 c
      refine J_tabIn (x := oA ((xs i.toNat).toInt) 63) (tgt := 454) (off := 421) dL_law_33 (by omega) (by omega) (by rw [c]; rfl) (by decide) ?_
      refine J_aload_n dL_law_454 rfl rfl ?_
      refine J_xload_n dL_law_455 rfl rfl ?_
      refine J_iload_n dL_law_456 rfl rfl ?_
      refine J_iconst dL_law_457 (ii_c rfl) ?_
      refine J_iaddN dL_law_458 h.1 ?_
      replace h := h.2
      refine J_sld rfl dL_law_459 h.1.1 h.1.2 ?_
      replace h := h.2
      refine J_xload_n dL_law_460 rfl rfl ?_
      refine J_iload_n dL_law_461 rfl rfl ?_
      refine J_iconst dL_law_462 (ii_c rfl) ?_
      refine J_iaddN dL_law_463 h.1 ?_
      replace h := h.2
      refine J_sld rfl dL_law_464 h.1.1 h.1.2 ?_
      replace h := h.2
      refine J_callV (as := [_, _]) (mc1 := 0) (ms1 := 0) (mc := 0) (ms := 0) dL_law_465 mv_X10_saint lk_L_51 sh_0 rfl (Nat.le_of_ble_eq_true rfl) (Nat.le_of_ble_eq_true rfl) h (fun r σ hq _ => ?_)
      obtain ⟨x17, I17, rfl, rfl, h⟩ := hq
      change J _ _ _ _ _ _ _ [vI x17] _ _
      refine J_aload_n dL_law_468 rfl rfl ?_
      refine J_xload_n dL_law_469 rfl rfl ?_
      refine J_iload_n dL_law_470 rfl rfl ?_
      refine J_iconst dL_law_471 (ii_c rfl) ?_
      refine J_iaddN dL_law_472 h.1 ?_
      replace h := h.2
      refine J_sld rfl dL_law_473 h.1.1 h.1.2 ?_
      replace h := h.2
      refine J_xload_n dL_law_474 rfl rfl ?_
      refine J_iload_n dL_law_475 rfl rfl ?_
      refine J_iconst dL_law_476 (ii_c rfl) ?_
      refine J_iaddN dL_law_477 h.1 ?_
      replace h := h.2
      refine J_sld rfl dL_law_478 h.1.1 h.1.2 ?_
      replace h := h.2
      refine J_callV (as := [_, _]) (mc1 := 0) (ms1 := 0) (mc := 0) (ms := 0) dL_law_479 mv_X11_saint lk_L_54 sh_489 rfl (Nat.le_of_ble_eq_true rfl) (Nat.le_of_ble_eq_true rfl) h (fun r σ hq _ => ?_)
      obtain ⟨x18, I18, rfl, rfl, h⟩ := hq
      change J _ _ _ _ _ _ _ [vI x18, vI x17] _ _
      refine J_ic_eq (tgt := 1210) dL_law_482 (by decide) (fun c => ?_) (fun c => ?_)
      · replace h := h.1 c
        refine J_iincN dL_law_1210 rfl (by decide) h.1 ?_
        replace h := h.2
        change J _ _ _ _ _ _ [(0, _), (1, _), (2, _), (3, _)] _ _ _
        refine J_goto (tgt := 18) dL_law_1213 (by decide) ?_
        exact h
      · replace h := h.2 c
        refine J_iconst dL_law_485 (ii_c rfl) ?_
        exact J_retz dL_law_486 rfl (Or.inl rfl) h
    · replace h := h.2.2.2.2.2.2.2.2.2.2.1 c
      refine J_tabIn (x := oA ((xs i.toNat).toInt) 63) (tgt := 487) (off := 454) dL_law_33 (by omega) (by omega) (by rw [c]; rfl) (by decide) ?_
      refine J_aload_n dL_law_487 rfl rfl ?_
      refine J_xload_n dL_law_488 rfl rfl ?_
      refine J_iload_n dL_law_489 rfl rfl ?_
      refine J_iconst dL_law_490 (ii_c rfl) ?_
      refine J_iaddN dL_law_491 h.1 ?_
      replace h := h.2
      refine J_sld rfl dL_law_492 h.1.1 h.1.2 ?_
      replace h := h.2
      refine J_xload_n dL_law_493 rfl rfl ?_
      refine J_iload_n dL_law_494 rfl rfl ?_
      refine J_iconst dL_law_495 (ii_c rfl) ?_
      refine J_iaddN dL_law_496 h.1 ?_
      replace h := h.2
      refine J_sld rfl dL_law_497 h.1.1 h.1.2 ?_
      replace h := h.2
      refine J_callV (as := [_, _]) (mc1 := 0) (ms1 := 0) (mc := 0) (ms := 0) dL_law_498 mv_X10_go lk_L_55 sh_0 rfl (Nat.le_of_ble_eq_true rfl) (Nat.le_of_ble_eq_true rfl) h (fun r σ hq _ => ?_)
      obtain ⟨x19, I19, rfl, rfl, h⟩ := hq
      change J _ _ _ _ _ _ _ [vI x19] _ _
      refine J_aload_n dL_law_501 rfl rfl ?_
      refine J_xload_n dL_law_502 rfl rfl ?_
      refine J_iload_n dL_law_503 rfl rfl ?_
      refine J_iconst dL_law_504 (ii_c rfl) ?_
      refine J_iaddN dL_law_505 h.1 ?_
      replace h := h.2
      refine J_sld rfl dL_law_506 h.1.1 h.1.2 ?_
      replace h := h.2
      refine J_xload_n dL_law_507 rfl rfl ?_
      refine J_iload_n dL_law_508 rfl rfl ?_
      refine J_iconst dL_law_509 (ii_c rfl) ?_
      refine J_iaddN dL_law_510 h.1 ?_
      replace h := h.2
      refine J_sld rfl dL_law_511 h.1.1 h.1.2 ?_
      replace h := h.2
      refine J_callV (as := [_, _]) (mc1 := 0) (ms1 := 0) (mc := 0) (ms := 0) dL_law_512 mv_X11_go lk_L_58 sh_489 rfl (Nat.le_of_ble_eq_true rfl) (Nat.le_of_ble_eq_true rfl) h (fun r σ hq _ => ?_)
      obtain ⟨x20, I20, rfl, rfl, h⟩ := hq
      change J _ _ _ _ _ _ _ [vI x20, vI x19] _ _
      refine J_ic_eq (tgt := 1210) dL_law_515 (by decide) (fun c => ?_) (fun c => ?_)
      · replace h := h.1 c
        refine J_iincN dL_law_1210 rfl (by decide) h.1 ?_
        replace h := h.2
        change J _ _ _ _ _ _ [(0, _), (1, _), (2, _), (3, _)] _ _ _
        refine J_goto (tgt := 18) dL_law_1213 (by decide) ?_
        exact h
      · replace h := h.2 c
        refine J_iconst dL_law_518 (ii_c rfl) ?_
        exact J_retz dL_law_519 rfl (Or.inl rfl) h
    · replace h := h.2.2.2.2.2.2.2.2.2.2.2.1 c
      refine J_tabIn (x := oA ((xs i.toNat).toInt) 63) (tgt := 520) (off := 487) dL_law_33 (by omega) (by omega) (by rw [c]; rfl) (by decide) ?_
      refine J_aload_n dL_law_520 rfl rfl ?_
      refine J_xload_n dL_law_521 rfl rfl ?_
      refine J_iload_n dL_law_522 rfl rfl ?_
      refine J_iconst dL_law_523 (ii_c rfl) ?_
      refine J_iaddN dL_law_524 h.1 ?_
      replace h := h.2
      refine J_sld rfl dL_law_525 h.1.1 h.1.2 ?_
      replace h := h.2
      refine J_xload_n dL_law_526 rfl rfl ?_
      refine J_iload_n dL_law_527 rfl rfl ?_
      refine J_iconst dL_law_528 (ii_c rfl) ?_
      refine J_iaddN dL_law_529 h.1 ?_
      replace h := h.2
      refine J_sld rfl dL_law_530 h.1.1 h.1.2 ?_
      replace h := h.2
      refine J_callV (as := [_, _]) (mc1 := 0) (ms1 := 0) (mc := 0) (ms := 0) dL_law_531 mv_X10_rest lk_L_59 sh_0 rfl (Nat.le_of_ble_eq_true rfl) (Nat.le_of_ble_eq_true rfl) h (fun r σ hq _ => ?_)
      obtain ⟨x21, I21, rfl, rfl, h⟩ := hq
      change J _ _ _ _ _ _ _ [vI x21] _ _
      refine J_aload_n dL_law_534 rfl rfl ?_
      refine J_xload_n dL_law_535 rfl rfl ?_
      refine J_iload_n dL_law_536 rfl rfl ?_
      refine J_iconst dL_law_537 (ii_c rfl) ?_
      refine J_iaddN dL_law_538 h.1 ?_
      replace h := h.2
      refine J_sld rfl dL_law_539 h.1.1 h.1.2 ?_
      replace h := h.2
      refine J_xload_n dL_law_540 rfl rfl ?_
      refine J_iload_n dL_law_541 rfl rfl ?_
      refine J_iconst dL_law_542 (ii_c rfl) ?_
      refine J_iaddN dL_law_543 h.1 ?_
      replace h := h.2
      refine J_sld rfl dL_law_544 h.1.1 h.1.2 ?_
      replace h := h.2
      refine J_callV (as := [_, _]) (mc1 := 0) (ms1 := 0) (mc := 0) (ms := 0) dL_law_545 mv_X11_rest lk_L_62 sh_489 rfl (Nat.le_of_ble_eq_true rfl) (Nat.le_of_ble_eq_true rfl) h (fun r σ hq _ => ?_)
      obtain ⟨x22, I22, rfl, rfl, h⟩ := hq
      change J _ _ _ _ _ _ _ [vI x22, vI x21] _ _
      refine J_ic_eq (tgt := 1210) dL_law_548 (by decide) (fun c => ?_) (fun c => ?_)
      · replace h := h.1 c
        refine J_iincN dL_law_1210 rfl (by decide) h.1 ?_
        replace h := h.2
        change J _ _ _ _ _ _ [(0, _), (1, _), (2, _), (3, _)] _ _ _
        refine J_goto (tgt := 18) dL_law_1213 (by decide) ?_
        exact h
      · replace h := h.2 c
        refine J_iconst dL_law_551 (ii_c rfl) ?_
        exact J_retz dL_law_552 rfl (Or.inl rfl) h
    · replace h := h.2.2.2.2.2.2.2.2.2.2.2.2.1 c
      refine J_tabIn (x := oA ((xs i.toNat).toInt) 63) (tgt := 553) (off := 520) dL_law_33 (by omega) (by omega) (by rw [c]; rfl) (by decide) ?_
      refine J_aload_n dL_law_553 rfl rfl ?_
      refine J_xload_n dL_law_554 rfl rfl ?_
      refine J_iload_n dL_law_555 rfl rfl ?_
      refine J_iconst dL_law_556 (ii_c rfl) ?_
      refine J_iaddN dL_law_557 h.1 ?_
      replace h := h.2
      refine J_sld rfl dL_law_558 h.1.1 h.1.2 ?_
      replace h := h.2
      refine J_callV (as := [_]) (mc1 := 0) (ms1 := 0) (mc := 0) (ms := 0) dL_law_559 mv_X10_clear lk_L_63 sh_0 rfl (Nat.le_of_ble_eq_true rfl) (Nat.le_of_ble_eq_true rfl) h (fun r σ hq _ => ?_)
      obtain ⟨x23, I23, rfl, rfl, h⟩ := hq
      change J _ _ _ _ _ _ _ [vI x23] _ _
      refine J_aload_n dL_law_562 rfl rfl ?_
      refine J_xload_n dL_law_563 rfl rfl ?_
      refine J_iload_n dL_law_564 rfl rfl ?_
      refine J_iconst dL_law_565 (ii_c rfl) ?_
      refine J_iaddN dL_law_566 h.1 ?_
      replace h := h.2
      refine J_sld rfl dL_law_567 h.1.1 h.1.2 ?_
      replace h := h.2
      refine J_callV (as := [_]) (mc1 := 0) (ms1 := 0) (mc := 0) (ms := 0) dL_law_568 mv_X11_clear lk_L_66 sh_489 rfl (Nat.le_of_ble_eq_true rfl) (Nat.le_of_ble_eq_true rfl) h (fun r σ hq _ => ?_)
      obtain ⟨x24, I24, rfl, rfl, h⟩ := hq
      change J _ _ _ _ _ _ _ [vI x24, vI x23] _ _
      refine J_ic_eq (tgt := 1210) dL_law_571 (by decide) (fun c => ?_) (fun c => ?_)
      · replace h := h.1 c
        refine J_iincN dL_law_1210 rfl (by decide) h.1 ?_
        replace h := h.2
        change J _ _ _ _ _ _ [(0, _), (1, _), (2, _), (3, _)] _ _ _
        refine J_goto (tgt := 18) dL_law_1213 (by decide) ?_
        exact h
      · replace h := h.2 c
        refine J_iconst dL_law_574 (ii_c rfl) ?_
        exact J_retz dL_law_575 rfl (Or.inl rfl) h
    · replace h := h.2.2.2.2.2.2.2.2.2.2.2.2.2.1 c
      refine J_tabIn (x := oA ((xs i.toNat).toInt) 63) (tgt := 576) (off := 543) dL_law_33 (by omega) (by omega) (by rw [c]; rfl) (by decide) ?_
      refine J_aload_n dL_law_576 rfl rfl ?_
      refine J_callV (as := []) (mc1 := 0) (ms1 := 0) (mc := 0) (ms := 0) dL_law_577 mv_X10_undo lk_L_67 sh_0 rfl (Nat.le_of_ble_eq_true rfl) (Nat.le_of_ble_eq_true rfl) h (fun r σ hq _ => ?_)
      obtain ⟨x25, I25, rfl, rfl, h⟩ := hq
      change J _ _ _ _ _ _ _ [vI x25] _ _
      refine J_aload_n dL_law_580 rfl rfl ?_
      refine J_callV (as := []) (mc1 := 0) (ms1 := 0) (mc := 0) (ms := 0) dL_law_581 mv_X11_undo lk_L_71 sh_489 rfl (Nat.le_of_ble_eq_true rfl) (Nat.le_of_ble_eq_true rfl) h (fun r σ hq _ => ?_)
      obtain ⟨x26, I26, rfl, rfl, h⟩ := hq
      change J _ _ _ _ _ _ _ [vI x26, vI x25] _ _
      refine J_ic_eq (tgt := 1210) dL_law_584 (by decide) (fun c => ?_) (fun c => ?_)
      · replace h := h.1 c
        refine J_iincN dL_law_1210 rfl (by decide) h.1 ?_
        replace h := h.2
        change J _ _ _ _ _ _ [(0, _), (1, _), (2, _), (3, _)] _ _ _
        refine J_goto (tgt := 18) dL_law_1213 (by decide) ?_
        exact h
      · replace h := h.2 c
        refine J_iconst dL_law_587 (ii_c rfl) ?_
        exact J_retz dL_law_588 rfl (Or.inl rfl) h
    · replace h := h.2.2.2.2.2.2.2.2.2.2.2.2.2.2.1 c
      refine J_tabIn (x := oA ((xs i.toNat).toInt) 63) (tgt := 589) (off := 556) dL_law_33 (by omega) (by omega) (by rw [c]; rfl) (by decide) ?_
      refine J_aload_n dL_law_589 rfl rfl ?_
      refine J_xload_n dL_law_590 rfl rfl ?_
      refine J_iload_n dL_law_591 rfl rfl ?_
      refine J_iconst dL_law_592 (ii_c rfl) ?_
      refine J_iaddN dL_law_593 h.1 ?_
      replace h := h.2
      refine J_sld rfl dL_law_594 h.1.1 h.1.2 ?_
      replace h := h.2
      refine J_xload_n dL_law_595 rfl rfl ?_
      refine J_iload_n dL_law_596 rfl rfl ?_
      refine J_iconst dL_law_597 (ii_c rfl) ?_
      refine J_iaddN dL_law_598 h.1 ?_
      replace h := h.2
      refine J_sld rfl dL_law_599 h.1.1 h.1.2 ?_
      replace h := h.2
      refine J_callV (as := [_, _]) (mc1 := 0) (ms1 := 0) (mc := 0) (ms := 0) dL_law_600 mv_X10_where lk_L_72 sh_0 rfl (Nat.le_of_ble_eq_true rfl) (Nat.le_of_ble_eq_true rfl) h (fun r σ hq _ => ?_)
      obtain ⟨x27, I27, rfl, rfl, h⟩ := hq
      change J _ _ _ _ _ _ _ [vI x27] _ _
      refine J_aload_n dL_law_603 rfl rfl ?_
      refine J_xload_n dL_law_604 rfl rfl ?_
      refine J_iload_n dL_law_605 rfl rfl ?_
      refine J_iconst dL_law_606 (ii_c rfl) ?_
      refine J_iaddN dL_law_607 h.1 ?_
      replace h := h.2
      refine J_sld rfl dL_law_608 h.1.1 h.1.2 ?_
      replace h := h.2
      refine J_xload_n dL_law_609 rfl rfl ?_
      refine J_iload_n dL_law_610 rfl rfl ?_
      refine J_iconst dL_law_611 (ii_c rfl) ?_
      refine J_iaddN dL_law_612 h.1 ?_
      replace h := h.2
      refine J_sld rfl dL_law_613 h.1.1 h.1.2 ?_
      replace h := h.2
      refine J_callV (as := [_, _]) (mc1 := 0) (ms1 := 0) (mc := 0) (ms := 0) dL_law_614 mv_X11_where lk_L_75 sh_489 rfl (Nat.le_of_ble_eq_true rfl) (Nat.le_of_ble_eq_true rfl) h (fun r σ hq _ => ?_)
      obtain ⟨x28, I28, rfl, rfl, h⟩ := hq
      change J _ _ _ _ _ _ _ [vI x28, vI x27] _ _
      refine J_ic_eq (tgt := 1210) dL_law_617 (by decide) (fun c => ?_) (fun c => ?_)
      · replace h := h.1 c
        refine J_iincN dL_law_1210 rfl (by decide) h.1 ?_
        replace h := h.2
        change J _ _ _ _ _ _ [(0, _), (1, _), (2, _), (3, _)] _ _ _
        refine J_goto (tgt := 18) dL_law_1213 (by decide) ?_
        exact h
      · replace h := h.2 c
        refine J_iconst dL_law_620 (ii_c rfl) ?_
        exact J_retz dL_law_621 rfl (Or.inl rfl) h
    · replace h := h.2.2.2.2.2.2.2.2.2.2.2.2.2.2.2.1 c
      refine J_tabIn (x := oA ((xs i.toNat).toInt) 63) (tgt := 622) (off := 589) dL_law_33 (by omega) (by omega) (by rw [c]; rfl) (by decide) ?_
      refine J_aload_n dL_law_622 rfl rfl ?_
      refine J_xload_n dL_law_623 rfl rfl ?_
      refine J_iload_n dL_law_624 rfl rfl ?_
      refine J_iconst dL_law_625 (ii_c rfl) ?_
      refine J_iaddN dL_law_626 h.1 ?_
      replace h := h.2
      refine J_sld rfl dL_law_627 h.1.1 h.1.2 ?_
      replace h := h.2
      refine J_xload_n dL_law_628 rfl rfl ?_
      refine J_iload_n dL_law_629 rfl rfl ?_
      refine J_iconst dL_law_630 (ii_c rfl) ?_
      refine J_iaddN dL_law_631 h.1 ?_
      replace h := h.2
      refine J_sld rfl dL_law_632 h.1.1 h.1.2 ?_
      replace h := h.2
      refine J_callV (as := [_, _]) (mc1 := 0) (ms1 := 0) (mc := 0) (ms := 0) dL_law_633 mv_X10_on lk_L_76 sh_0 rfl (Nat.le_of_ble_eq_true rfl) (Nat.le_of_ble_eq_true rfl) h (fun r σ hq _ => ?_)
      obtain ⟨x29, I29, rfl, rfl, h⟩ := hq
      change J _ _ _ _ _ _ _ [vI x29] _ _
      refine J_aload_n dL_law_636 rfl rfl ?_
      refine J_xload_n dL_law_637 rfl rfl ?_
      refine J_iload_n dL_law_638 rfl rfl ?_
      refine J_iconst dL_law_639 (ii_c rfl) ?_
      refine J_iaddN dL_law_640 h.1 ?_
      replace h := h.2
      refine J_sld rfl dL_law_641 h.1.1 h.1.2 ?_
      replace h := h.2
      refine J_xload_n dL_law_642 rfl rfl ?_
      refine J_iload_n dL_law_643 rfl rfl ?_
      refine J_iconst dL_law_644 (ii_c rfl) ?_
      refine J_iaddN dL_law_645 h.1 ?_
      replace h := h.2
      refine J_sld rfl dL_law_646 h.1.1 h.1.2 ?_
      replace h := h.2
      refine J_callV (as := [_, _]) (mc1 := 0) (ms1 := 0) (mc := 0) (ms := 0) dL_law_647 mv_X11_on lk_L_79 sh_489 rfl (Nat.le_of_ble_eq_true rfl) (Nat.le_of_ble_eq_true rfl) h (fun r σ hq _ => ?_)
      obtain ⟨x30, I30, rfl, rfl, h⟩ := hq
      change J _ _ _ _ _ _ _ [vI x30, vI x29] _ _
      refine J_ic_eq (tgt := 1210) dL_law_650 (by decide) (fun c => ?_) (fun c => ?_)
      · replace h := h.1 c
        refine J_iincN dL_law_1210 rfl (by decide) h.1 ?_
        replace h := h.2
        change J _ _ _ _ _ _ [(0, _), (1, _), (2, _), (3, _)] _ _ _
        refine J_goto (tgt := 18) dL_law_1213 (by decide) ?_
        exact h
      · replace h := h.2 c
        refine J_iconst dL_law_653 (ii_c rfl) ?_
        exact J_retz dL_law_654 rfl (Or.inl rfl) h
    · replace h := h.2.2.2.2.2.2.2.2.2.2.2.2.2.2.2.2.1 c
      refine J_tabIn (x := oA ((xs i.toNat).toInt) 63) (tgt := 655) (off := 622) dL_law_33 (by omega) (by omega) (by rw [c]; rfl) (by decide) ?_
      refine J_aload_n dL_law_655 rfl rfl ?_
      refine J_xload_n dL_law_656 rfl rfl ?_
      refine J_iload_n dL_law_657 rfl rfl ?_
      refine J_iconst dL_law_658 (ii_c rfl) ?_
      refine J_iaddN dL_law_659 h.1 ?_
      replace h := h.2
      refine J_sld rfl dL_law_660 h.1.1 h.1.2 ?_
      replace h := h.2
      refine J_xload_n dL_law_661 rfl rfl ?_
      refine J_iload_n dL_law_662 rfl rfl ?_
      refine J_iconst dL_law_663 (ii_c rfl) ?_
      refine J_iaddN dL_law_664 h.1 ?_
      replace h := h.2
      refine J_sld rfl dL_law_665 h.1.1 h.1.2 ?_
      replace h := h.2
      refine J_callV (as := [_, _]) (mc1 := 0) (ms1 := 0) (mc := 0) (ms := 0) dL_law_666 mv_X10_petals lk_L_80 sh_0 rfl (Nat.le_of_ble_eq_true rfl) (Nat.le_of_ble_eq_true rfl) h (fun r σ hq _ => ?_)
      obtain ⟨x31, I31, rfl, rfl, h⟩ := hq
      change J _ _ _ _ _ _ _ [vI x31] _ _
      refine J_aload_n dL_law_669 rfl rfl ?_
      refine J_xload_n dL_law_670 rfl rfl ?_
      refine J_iload_n dL_law_671 rfl rfl ?_
      refine J_iconst dL_law_672 (ii_c rfl) ?_
      refine J_iaddN dL_law_673 h.1 ?_
      replace h := h.2
      refine J_sld rfl dL_law_674 h.1.1 h.1.2 ?_
      replace h := h.2
      refine J_xload_n dL_law_675 rfl rfl ?_
      refine J_iload_n dL_law_676 rfl rfl ?_
      refine J_iconst dL_law_677 (ii_c rfl) ?_
      refine J_iaddN dL_law_678 h.1 ?_
      replace h := h.2
      refine J_sld rfl dL_law_679 h.1.1 h.1.2 ?_
      replace h := h.2
      refine J_callV (as := [_, _]) (mc1 := 0) (ms1 := 0) (mc := 0) (ms := 0) dL_law_680 mv_X11_petals lk_L_83 sh_489 rfl (Nat.le_of_ble_eq_true rfl) (Nat.le_of_ble_eq_true rfl) h (fun r σ hq _ => ?_)
      obtain ⟨x32, I32, rfl, rfl, h⟩ := hq
      change J _ _ _ _ _ _ _ [vI x32, vI x31] _ _
      refine J_ic_eq (tgt := 1210) dL_law_683 (by decide) (fun c => ?_) (fun c => ?_)
      · replace h := h.1 c
        refine J_iincN dL_law_1210 rfl (by decide) h.1 ?_
        replace h := h.2
        change J _ _ _ _ _ _ [(0, _), (1, _), (2, _), (3, _)] _ _ _
        refine J_goto (tgt := 18) dL_law_1213 (by decide) ?_
        exact h
      · replace h := h.2 c
        refine J_iconst dL_law_686 (ii_c rfl) ?_
        exact J_retz dL_law_687 rfl (Or.inl rfl) h
    · replace h := h.2.2.2.2.2.2.2.2.2.2.2.2.2.2.2.2.2.1 c
      refine J_tabIn (x := oA ((xs i.toNat).toInt) 63) (tgt := 688) (off := 655) dL_law_33 (by omega) (by omega) (by rw [c]; rfl) (by decide) ?_
      refine J_aload_n dL_law_688 rfl rfl ?_
      refine J_xload_n dL_law_689 rfl rfl ?_
      refine J_iload_n dL_law_690 rfl rfl ?_
      refine J_iconst dL_law_691 (ii_c rfl) ?_
      refine J_iaddN dL_law_692 h.1 ?_
      replace h := h.2
      refine J_sld rfl dL_law_693 h.1.1 h.1.2 ?_
      replace h := h.2
      refine J_xload_n dL_law_694 rfl rfl ?_
      refine J_iload_n dL_law_695 rfl rfl ?_
      refine J_iconst dL_law_696 (ii_c rfl) ?_
      refine J_iaddN dL_law_697 h.1 ?_
      replace h := h.2
      refine J_sld rfl dL_law_698 h.1.1 h.1.2 ?_
      replace h := h.2
      refine J_callV (as := [_, _]) (mc1 := 0) (ms1 := 0) (mc := 0) (ms := 0) dL_law_699 mv_X10_passes lk_L_84 sh_0 rfl (Nat.le_of_ble_eq_true rfl) (Nat.le_of_ble_eq_true rfl) h (fun r σ hq _ => ?_)
      obtain ⟨x33, I33, rfl, rfl, h⟩ := hq
      change J _ _ _ _ _ _ _ [vI x33] _ _
      refine J_aload_n dL_law_702 rfl rfl ?_
      refine J_xload_n dL_law_703 rfl rfl ?_
      refine J_iload_n dL_law_704 rfl rfl ?_
      refine J_iconst dL_law_705 (ii_c rfl) ?_
      refine J_iaddN dL_law_706 h.1 ?_
      replace h := h.2
      refine J_sld rfl dL_law_707 h.1.1 h.1.2 ?_
      replace h := h.2
      refine J_xload_n dL_law_708 rfl rfl ?_
      refine J_iload_n dL_law_709 rfl rfl ?_
      refine J_iconst dL_law_710 (ii_c rfl) ?_
      refine J_iaddN dL_law_711 h.1 ?_
      replace h := h.2
      refine J_sld rfl dL_law_712 h.1.1 h.1.2 ?_
      replace h := h.2
      refine J_callV (as := [_, _]) (mc1 := 0) (ms1 := 0) (mc := 0) (ms := 0) dL_law_713 mv_X11_passes lk_L_87 sh_489 rfl (Nat.le_of_ble_eq_true rfl) (Nat.le_of_ble_eq_true rfl) h (fun r σ hq _ => ?_)
      obtain ⟨x34, I34, rfl, rfl, h⟩ := hq
      change J _ _ _ _ _ _ _ [vI x34, vI x33] _ _
      refine J_ic_eq (tgt := 1210) dL_law_716 (by decide) (fun c => ?_) (fun c => ?_)
      · replace h := h.1 c
        refine J_iincN dL_law_1210 rfl (by decide) h.1 ?_
        replace h := h.2
        change J _ _ _ _ _ _ [(0, _), (1, _), (2, _), (3, _)] _ _ _
        refine J_goto (tgt := 18) dL_law_1213 (by decide) ?_
        exact h
      · replace h := h.2 c
        refine J_iconst dL_law_719 (ii_c rfl) ?_
        exact J_retz dL_law_720 rfl (Or.inl rfl) h
    · replace h := h.2.2.2.2.2.2.2.2.2.2.2.2.2.2.2.2.2.2.1 c
      refine J_tabIn (x := oA ((xs i.toNat).toInt) 63) (tgt := 721) (off := 688) dL_law_33 (by omega) (by omega) (by rw [c]; rfl) (by decide) ?_
      refine J_aload_n dL_law_721 rfl rfl ?_
      refine J_xload_n dL_law_722 rfl rfl ?_
      refine J_iload_n dL_law_723 rfl rfl ?_
      refine J_iconst dL_law_724 (ii_c rfl) ?_
      refine J_iaddN dL_law_725 h.1 ?_
      replace h := h.2
      refine J_sld rfl dL_law_726 h.1.1 h.1.2 ?_
      replace h := h.2
      refine J_callV (as := [_]) (mc1 := 0) (ms1 := 0) (mc := 0) (ms := 0) dL_law_727 mv_X10_clash lk_L_88 sh_0 rfl (Nat.le_of_ble_eq_true rfl) (Nat.le_of_ble_eq_true rfl) h (fun r σ hq _ => ?_)
      obtain ⟨x35, I35, rfl, rfl, h⟩ := hq
      change J _ _ _ _ _ _ _ [vI x35] _ _
      refine J_aload_n dL_law_730 rfl rfl ?_
      refine J_xload_n dL_law_731 rfl rfl ?_
      refine J_iload_n dL_law_732 rfl rfl ?_
      refine J_iconst dL_law_733 (ii_c rfl) ?_
      refine J_iaddN dL_law_734 h.1 ?_
      replace h := h.2
      refine J_sld rfl dL_law_735 h.1.1 h.1.2 ?_
      replace h := h.2
      refine J_callV (as := [_]) (mc1 := 0) (ms1 := 0) (mc := 0) (ms := 0) dL_law_736 mv_X11_clash lk_L_91 sh_489 rfl (Nat.le_of_ble_eq_true rfl) (Nat.le_of_ble_eq_true rfl) h (fun r σ hq _ => ?_)
      obtain ⟨x36, I36, rfl, rfl, h⟩ := hq
      change J _ _ _ _ _ _ _ [vI x36, vI x35] _ _
      refine J_ic_eq (tgt := 1210) dL_law_739 (by decide) (fun c => ?_) (fun c => ?_)
      · replace h := h.1 c
        refine J_iincN dL_law_1210 rfl (by decide) h.1 ?_
        replace h := h.2
        change J _ _ _ _ _ _ [(0, _), (1, _), (2, _), (3, _)] _ _ _
        refine J_goto (tgt := 18) dL_law_1213 (by decide) ?_
        exact h
      · replace h := h.2 c
        refine J_iconst dL_law_742 (ii_c rfl) ?_
        exact J_retz dL_law_743 rfl (Or.inl rfl) h
    · replace h := h.2.2.2.2.2.2.2.2.2.2.2.2.2.2.2.2.2.2.2.1 c
      refine J_tabIn (x := oA ((xs i.toNat).toInt) 63) (tgt := 744) (off := 711) dL_law_33 (by omega) (by omega) (by rw [c]; rfl) (by decide) ?_
      refine J_aload_n dL_law_744 rfl rfl ?_
      refine J_xload_n dL_law_745 rfl rfl ?_
      refine J_iload_n dL_law_746 rfl rfl ?_
      refine J_iconst dL_law_747 (ii_c rfl) ?_
      refine J_iaddN dL_law_748 h.1 ?_
      replace h := h.2
      refine J_sld rfl dL_law_749 h.1.1 h.1.2 ?_
      replace h := h.2
      refine J_callV (as := [_]) (mc1 := 0) (ms1 := 0) (mc := 0) (ms := 0) dL_law_750 mv_X10_clashes lk_L_92 sh_0 rfl (Nat.le_of_ble_eq_true rfl) (Nat.le_of_ble_eq_true rfl) h (fun r σ hq _ => ?_)
      obtain ⟨x37, I37, rfl, rfl, h⟩ := hq
      change J _ _ _ _ _ _ _ [vI x37] _ _
      refine J_aload_n dL_law_753 rfl rfl ?_
      refine J_xload_n dL_law_754 rfl rfl ?_
      refine J_iload_n dL_law_755 rfl rfl ?_
      refine J_iconst dL_law_756 (ii_c rfl) ?_
      refine J_iaddN dL_law_757 h.1 ?_
      replace h := h.2
      refine J_sld rfl dL_law_758 h.1.1 h.1.2 ?_
      replace h := h.2
      refine J_callV (as := [_]) (mc1 := 0) (ms1 := 0) (mc := 0) (ms := 0) dL_law_759 mv_X11_clashes lk_L_95 sh_489 rfl (Nat.le_of_ble_eq_true rfl) (Nat.le_of_ble_eq_true rfl) h (fun r σ hq _ => ?_)
      obtain ⟨x38, I38, rfl, rfl, h⟩ := hq
      change J _ _ _ _ _ _ _ [vI x38, vI x37] _ _
      refine J_ic_eq (tgt := 1210) dL_law_762 (by decide) (fun c => ?_) (fun c => ?_)
      · replace h := h.1 c
        refine J_iincN dL_law_1210 rfl (by decide) h.1 ?_
        replace h := h.2
        change J _ _ _ _ _ _ [(0, _), (1, _), (2, _), (3, _)] _ _ _
        refine J_goto (tgt := 18) dL_law_1213 (by decide) ?_
        exact h
      · replace h := h.2 c
        refine J_iconst dL_law_765 (ii_c rfl) ?_
        exact J_retz dL_law_766 rfl (Or.inl rfl) h
    · replace h := h.2.2.2.2.2.2.2.2.2.2.2.2.2.2.2.2.2.2.2.2.1 c
      refine J_tabIn (x := oA ((xs i.toNat).toInt) 63) (tgt := 767) (off := 734) dL_law_33 (by omega) (by omega) (by rw [c]; rfl) (by decide) ?_
      refine J_aload_n dL_law_767 rfl rfl ?_
      refine J_xload_n dL_law_768 rfl rfl ?_
      refine J_iload_n dL_law_769 rfl rfl ?_
      refine J_iconst dL_law_770 (ii_c rfl) ?_
      refine J_iaddN dL_law_771 h.1 ?_
      replace h := h.2
      refine J_sld rfl dL_law_772 h.1.1 h.1.2 ?_
      replace h := h.2
      refine J_xload_n dL_law_773 rfl rfl ?_
      refine J_iload_n dL_law_774 rfl rfl ?_
      refine J_iconst dL_law_775 (ii_c rfl) ?_
      refine J_iaddN dL_law_776 h.1 ?_
      replace h := h.2
      refine J_sld rfl dL_law_777 h.1.1 h.1.2 ?_
      replace h := h.2
      refine J_callV (as := [_, _]) (mc1 := 0) (ms1 := 0) (mc := 0) (ms := 0) dL_law_778 mv_X10_meet lk_L_96 sh_0 rfl (Nat.le_of_ble_eq_true rfl) (Nat.le_of_ble_eq_true rfl) h (fun r σ hq _ => ?_)
      obtain ⟨x39, I39, rfl, rfl, h⟩ := hq
      change J _ _ _ _ _ _ _ [vI x39] _ _
      refine J_aload_n dL_law_781 rfl rfl ?_
      refine J_xload_n dL_law_782 rfl rfl ?_
      refine J_iload_n dL_law_783 rfl rfl ?_
      refine J_iconst dL_law_784 (ii_c rfl) ?_
      refine J_iaddN dL_law_785 h.1 ?_
      replace h := h.2
      refine J_sld rfl dL_law_786 h.1.1 h.1.2 ?_
      replace h := h.2
      refine J_xload_n dL_law_787 rfl rfl ?_
      refine J_iload_n dL_law_788 rfl rfl ?_
      refine J_iconst dL_law_789 (ii_c rfl) ?_
      refine J_iaddN dL_law_790 h.1 ?_
      replace h := h.2
      refine J_sld rfl dL_law_791 h.1.1 h.1.2 ?_
      replace h := h.2
      refine J_callV (as := [_, _]) (mc1 := 0) (ms1 := 0) (mc := 0) (ms := 0) dL_law_792 mv_X11_meet lk_L_99 sh_489 rfl (Nat.le_of_ble_eq_true rfl) (Nat.le_of_ble_eq_true rfl) h (fun r σ hq _ => ?_)
      obtain ⟨x40, I40, rfl, rfl, h⟩ := hq
      change J _ _ _ _ _ _ _ [vI x40, vI x39] _ _
      refine J_ic_eq (tgt := 1210) dL_law_795 (by decide) (fun c => ?_) (fun c => ?_)
      · replace h := h.1 c
        refine J_iincN dL_law_1210 rfl (by decide) h.1 ?_
        replace h := h.2
        change J _ _ _ _ _ _ [(0, _), (1, _), (2, _), (3, _)] _ _ _
        refine J_goto (tgt := 18) dL_law_1213 (by decide) ?_
        exact h
      · replace h := h.2 c
        refine J_iconst dL_law_798 (ii_c rfl) ?_
        exact J_retz dL_law_799 rfl (Or.inl rfl) h
    · replace h := h.2.2.2.2.2.2.2.2.2.2.2.2.2.2.2.2.2.2.2.2.2.1 c
      refine J_tabIn (x := oA ((xs i.toNat).toInt) 63) (tgt := 800) (off := 767) dL_law_33 (by omega) (by omega) (by rw [c]; rfl) (by decide) ?_
      refine J_aload_n dL_law_800 rfl rfl ?_
      refine J_callV (as := []) (mc1 := 0) (ms1 := 0) (mc := 0) (ms := 0) dL_law_801 mv_X10_pleased lk_L_100 sh_0 rfl (Nat.le_of_ble_eq_true rfl) (Nat.le_of_ble_eq_true rfl) h (fun r σ hq _ => ?_)
      obtain ⟨x41, I41, rfl, rfl, h⟩ := hq
      change J _ _ _ _ _ _ _ [vI x41] _ _
      refine J_aload_n dL_law_804 rfl rfl ?_
      refine J_callV (as := []) (mc1 := 0) (ms1 := 0) (mc := 0) (ms := 0) dL_law_805 mv_X11_pleased lk_L_103 sh_489 rfl (Nat.le_of_ble_eq_true rfl) (Nat.le_of_ble_eq_true rfl) h (fun r σ hq _ => ?_)
      obtain ⟨x42, I42, rfl, rfl, h⟩ := hq
      change J _ _ _ _ _ _ _ [vI x42, vI x41] _ _
      refine J_ic_eq (tgt := 1210) dL_law_808 (by decide) (fun c => ?_) (fun c => ?_)
      · replace h := h.1 c
        refine J_iincN dL_law_1210 rfl (by decide) h.1 ?_
        replace h := h.2
        change J _ _ _ _ _ _ [(0, _), (1, _), (2, _), (3, _)] _ _ _
        refine J_goto (tgt := 18) dL_law_1213 (by decide) ?_
        exact h
      · replace h := h.2 c
        refine J_iconst dL_law_811 (ii_c rfl) ?_
        exact J_retz dL_law_812 rfl (Or.inl rfl) h
    · replace h := h.2.2.2.2.2.2.2.2.2.2.2.2.2.2.2.2.2.2.2.2.2.2.1 c
      refine J_tabIn (x := oA ((xs i.toNat).toInt) 63) (tgt := 813) (off := 780) dL_law_33 (by omega) (by omega) (by rw [c]; rfl) (by decide) ?_
      refine J_aload_n dL_law_813 rfl rfl ?_
      refine J_xload_n dL_law_814 rfl rfl ?_
      refine J_iload_n dL_law_815 rfl rfl ?_
      refine J_iconst dL_law_816 (ii_c rfl) ?_
      refine J_iaddN dL_law_817 h.1 ?_
      replace h := h.2
      refine J_sld rfl dL_law_818 h.1.1 h.1.2 ?_
      replace h := h.2
      refine J_callV (as := [_]) (mc1 := 0) (ms1 := 0) (mc := 0) (ms := 0) dL_law_819 mv_X10_but lk_L_104 sh_0 rfl (Nat.le_of_ble_eq_true rfl) (Nat.le_of_ble_eq_true rfl) h (fun r σ hq _ => ?_)
      obtain ⟨x43, I43, rfl, rfl, h⟩ := hq
      change J _ _ _ _ _ _ _ [vI x43] _ _
      refine J_aload_n dL_law_822 rfl rfl ?_
      refine J_xload_n dL_law_823 rfl rfl ?_
      refine J_iload_n dL_law_824 rfl rfl ?_
      refine J_iconst dL_law_825 (ii_c rfl) ?_
      refine J_iaddN dL_law_826 h.1 ?_
      replace h := h.2
      refine J_sld rfl dL_law_827 h.1.1 h.1.2 ?_
      replace h := h.2
      refine J_callV (as := [_]) (mc1 := 0) (ms1 := 0) (mc := 0) (ms := 0) dL_law_828 mv_X11_but lk_L_107 sh_489 rfl (Nat.le_of_ble_eq_true rfl) (Nat.le_of_ble_eq_true rfl) h (fun r σ hq _ => ?_)
      obtain ⟨x44, I44, rfl, rfl, h⟩ := hq
      change J _ _ _ _ _ _ _ [vI x44, vI x43] _ _
      refine J_ic_eq (tgt := 1210) dL_law_831 (by decide) (fun c => ?_) (fun c => ?_)
      · replace h := h.1 c
        refine J_iincN dL_law_1210 rfl (by decide) h.1 ?_
        replace h := h.2
        change J _ _ _ _ _ _ [(0, _), (1, _), (2, _), (3, _)] _ _ _
        refine J_goto (tgt := 18) dL_law_1213 (by decide) ?_
        exact h
      · replace h := h.2 c
        refine J_iconst dL_law_834 (ii_c rfl) ?_
        exact J_retz dL_law_835 rfl (Or.inl rfl) h
    · replace h := h.2.2.2.2.2.2.2.2.2.2.2.2.2.2.2.2.2.2.2.2.2.2.2.1 c
      refine J_tabIn (x := oA ((xs i.toNat).toInt) 63) (tgt := 836) (off := 803) dL_law_33 (by omega) (by omega) (by rw [c]; rfl) (by decide) ?_
      refine J_aload_n dL_law_836 rfl rfl ?_
      refine J_xload_n dL_law_837 rfl rfl ?_
      refine J_iload_n dL_law_838 rfl rfl ?_
      refine J_iconst dL_law_839 (ii_c rfl) ?_
      refine J_iaddN dL_law_840 h.1 ?_
      replace h := h.2
      refine J_sld rfl dL_law_841 h.1.1 h.1.2 ?_
      replace h := h.2
      refine J_callV (as := [_]) (mc1 := 0) (ms1 := 0) (mc := 0) (ms := 0) dL_law_842 mv_X10_words lk_L_108 sh_0 rfl (Nat.le_of_ble_eq_true rfl) (Nat.le_of_ble_eq_true rfl) h (fun r σ hq _ => ?_)
      obtain ⟨x45, I45, rfl, rfl, h⟩ := hq
      change J _ _ _ _ _ _ _ [vI x45] _ _
      refine J_aload_n dL_law_845 rfl rfl ?_
      refine J_xload_n dL_law_846 rfl rfl ?_
      refine J_iload_n dL_law_847 rfl rfl ?_
      refine J_iconst dL_law_848 (ii_c rfl) ?_
      refine J_iaddN dL_law_849 h.1 ?_
      replace h := h.2
      refine J_sld rfl dL_law_850 h.1.1 h.1.2 ?_
      replace h := h.2
      refine J_callV (as := [_]) (mc1 := 0) (ms1 := 0) (mc := 0) (ms := 0) dL_law_851 mv_X11_words lk_L_111 sh_489 rfl (Nat.le_of_ble_eq_true rfl) (Nat.le_of_ble_eq_true rfl) h (fun r σ hq _ => ?_)
      obtain ⟨x46, I46, rfl, rfl, h⟩ := hq
      change J _ _ _ _ _ _ _ [vI x46, vI x45] _ _
      refine J_ic_eq (tgt := 1210) dL_law_854 (by decide) (fun c => ?_) (fun c => ?_)
      · replace h := h.1 c
        refine J_iincN dL_law_1210 rfl (by decide) h.1 ?_
        replace h := h.2
        change J _ _ _ _ _ _ [(0, _), (1, _), (2, _), (3, _)] _ _ _
        refine J_goto (tgt := 18) dL_law_1213 (by decide) ?_
        exact h
      · replace h := h.2 c
        refine J_iconst dL_law_857 (ii_c rfl) ?_
        exact J_retz dL_law_858 rfl (Or.inl rfl) h
    · replace h := h.2.2.2.2.2.2.2.2.2.2.2.2.2.2.2.2.2.2.2.2.2.2.2.2.1 c
      refine J_tabIn (x := oA ((xs i.toNat).toInt) 63) (tgt := 859) (off := 826) dL_law_33 (by omega) (by omega) (by rw [c]; rfl) (by decide) ?_
      refine J_aload_n dL_law_859 rfl rfl ?_
      refine J_xload_n dL_law_860 rfl rfl ?_
      refine J_iload_n dL_law_861 rfl rfl ?_
      refine J_iconst dL_law_862 (ii_c rfl) ?_
      refine J_iaddN dL_law_863 h.1 ?_
      replace h := h.2
      refine J_sld rfl dL_law_864 h.1.1 h.1.2 ?_
      replace h := h.2
      refine J_callV (as := [_]) (mc1 := 0) (ms1 := 0) (mc := 0) (ms := 0) dL_law_865 mv_X10_softer lk_L_112 sh_0 rfl (Nat.le_of_ble_eq_true rfl) (Nat.le_of_ble_eq_true rfl) h (fun r σ hq _ => ?_)
      obtain ⟨x47, I47, rfl, rfl, h⟩ := hq
      change J _ _ _ _ _ _ _ [vI x47] _ _
      refine J_aload_n dL_law_868 rfl rfl ?_
      refine J_xload_n dL_law_869 rfl rfl ?_
      refine J_iload_n dL_law_870 rfl rfl ?_
      refine J_iconst dL_law_871 (ii_c rfl) ?_
      refine J_iaddN dL_law_872 h.1 ?_
      replace h := h.2
      refine J_sld rfl dL_law_873 h.1.1 h.1.2 ?_
      replace h := h.2
      refine J_callV (as := [_]) (mc1 := 0) (ms1 := 0) (mc := 0) (ms := 0) dL_law_874 mv_X11_softer lk_L_115 sh_489 rfl (Nat.le_of_ble_eq_true rfl) (Nat.le_of_ble_eq_true rfl) h (fun r σ hq _ => ?_)
      obtain ⟨x48, I48, rfl, rfl, h⟩ := hq
      change J _ _ _ _ _ _ _ [vI x48, vI x47] _ _
      refine J_ic_eq (tgt := 1210) dL_law_877 (by decide) (fun c => ?_) (fun c => ?_)
      · replace h := h.1 c
        refine J_iincN dL_law_1210 rfl (by decide) h.1 ?_
        replace h := h.2
        change J _ _ _ _ _ _ [(0, _), (1, _), (2, _), (3, _)] _ _ _
        refine J_goto (tgt := 18) dL_law_1213 (by decide) ?_
        exact h
      · replace h := h.2 c
        refine J_iconst dL_law_880 (ii_c rfl) ?_
        exact J_retz dL_law_881 rfl (Or.inl rfl) h
    · replace h := h.2.2.2.2.2.2.2.2.2.2.2.2.2.2.2.2.2.2.2.2.2.2.2.2.2.1 c
      refine J_tabIn (x := oA ((xs i.toNat).toInt) 63) (tgt := 882) (off := 849) dL_law_33 (by omega) (by omega) (by rw [c]; rfl) (by decide) ?_
      refine J_aload_n dL_law_882 rfl rfl ?_
      refine J_xload_n dL_law_883 rfl rfl ?_
      refine J_iload_n dL_law_884 rfl rfl ?_
      refine J_iconst dL_law_885 (ii_c rfl) ?_
      refine J_iaddN dL_law_886 h.1 ?_
      replace h := h.2
      refine J_sld rfl dL_law_887 h.1.1 h.1.2 ?_
      replace h := h.2
      refine J_xload_n dL_law_888 rfl rfl ?_
      refine J_iload_n dL_law_889 rfl rfl ?_
      refine J_iconst dL_law_890 (ii_c rfl) ?_
      refine J_iaddN dL_law_891 h.1 ?_
      replace h := h.2
      refine J_sld rfl dL_law_892 h.1.1 h.1.2 ?_
      replace h := h.2
      refine J_if_eq (tgt := 900) dL_law_893 (by decide) (fun c => ?_) (fun c => ?_)
      · replace h := h.1 c
        refine J_iconst dL_law_900 (ii_c rfl) ?_
        refine J_callV (as := [_, _]) (mc1 := 0) (ms1 := 0) (mc := 0) (ms := 0) dL_law_901 mv_X10_shut lk_L_116 sh_0 rfl (Nat.le_of_ble_eq_true rfl) (Nat.le_of_ble_eq_true rfl) h (fun r σ hq _ => ?_)
        obtain ⟨x49, I49, rfl, rfl, h⟩ := hq
        change J _ _ _ _ _ _ _ [vI x49] _ _
        refine J_aload_n dL_law_904 rfl rfl ?_
        refine J_xload_n dL_law_905 rfl rfl ?_
        refine J_iload_n dL_law_906 rfl rfl ?_
        refine J_iconst dL_law_907 (ii_c rfl) ?_
        refine J_iaddN dL_law_908 h.1 ?_
        replace h := h.2
        refine J_sld rfl dL_law_909 h.1.1 h.1.2 ?_
        replace h := h.2
        refine J_xload_n dL_law_910 rfl rfl ?_
        refine J_iload_n dL_law_911 rfl rfl ?_
        refine J_iconst dL_law_912 (ii_c rfl) ?_
        refine J_iaddN dL_law_913 h.1 ?_
        replace h := h.2
        refine J_sld rfl dL_law_914 h.1.1 h.1.2 ?_
        replace h := h.2
        refine J_if_eq (tgt := 922) dL_law_915 (by decide) (fun c => ?_) (fun c => ?_)
        · replace h := h.1 c
          refine J_iconst dL_law_922 (ii_c rfl) ?_
          refine J_callV (as := [_, _]) (mc1 := 0) (ms1 := 0) (mc := 0) (ms := 0) dL_law_923 mv_X11_shut lk_L_120 sh_489 rfl (Nat.le_of_ble_eq_true rfl) (Nat.le_of_ble_eq_true rfl) h (fun r σ hq _ => ?_)
          obtain ⟨x50, I50, rfl, rfl, h⟩ := hq
          change J _ _ _ _ _ _ _ [vI x50, vI x49] _ _
          refine J_ic_eq (tgt := 1210) dL_law_926 (by decide) (fun c => ?_) (fun c => ?_)
          · replace h := h.1 c
            refine J_iincN dL_law_1210 rfl (by decide) h.1 ?_
            replace h := h.2
            change J _ _ _ _ _ _ [(0, _), (1, _), (2, _), (3, _)] _ _ _
            refine J_goto (tgt := 18) dL_law_1213 (by decide) ?_
            exact h
          · replace h := h.2 c
            refine J_iconst dL_law_929 (ii_c rfl) ?_
            exact J_retz dL_law_930 rfl (Or.inl rfl) h
        · replace h := h.2 c
          refine J_iconst dL_law_918 (ii_c rfl) ?_
          refine J_goto (tgt := 923) dL_law_919 (by decide) ?_
          refine J_callV (as := [_, _]) (mc1 := 0) (ms1 := 0) (mc := 0) (ms := 0) dL_law_923 mv_X11_shut lk_L_120 sh_489 rfl (Nat.le_of_ble_eq_true rfl) (Nat.le_of_ble_eq_true rfl) h (fun r σ hq _ => ?_)
          obtain ⟨x51, I51, rfl, rfl, h⟩ := hq
          change J _ _ _ _ _ _ _ [vI x51, vI x49] _ _
          refine J_ic_eq (tgt := 1210) dL_law_926 (by decide) (fun c => ?_) (fun c => ?_)
          · replace h := h.1 c
            refine J_iincN dL_law_1210 rfl (by decide) h.1 ?_
            replace h := h.2
            change J _ _ _ _ _ _ [(0, _), (1, _), (2, _), (3, _)] _ _ _
            refine J_goto (tgt := 18) dL_law_1213 (by decide) ?_
            exact h
          · replace h := h.2 c
            refine J_iconst dL_law_929 (ii_c rfl) ?_
            exact J_retz dL_law_930 rfl (Or.inl rfl) h
      · replace h := h.2 c
        refine J_iconst dL_law_896 (ii_c rfl) ?_
        refine J_goto (tgt := 901) dL_law_897 (by decide) ?_
        refine J_callV (as := [_, _]) (mc1 := 0) (ms1 := 0) (mc := 0) (ms := 0) dL_law_901 mv_X10_shut lk_L_116 sh_0 rfl (Nat.le_of_ble_eq_true rfl) (Nat.le_of_ble_eq_true rfl) h (fun r σ hq _ => ?_)
        obtain ⟨x52, I52, rfl, rfl, h⟩ := hq
        change J _ _ _ _ _ _ _ [vI x52] _ _
        refine J_aload_n dL_law_904 rfl rfl ?_
        refine J_xload_n dL_law_905 rfl rfl ?_
        refine J_iload_n dL_law_906 rfl rfl ?_
        refine J_iconst dL_law_907 (ii_c rfl) ?_
        refine J_iaddN dL_law_908 h.1 ?_
        replace h := h.2
        refine J_sld rfl dL_law_909 h.1.1 h.1.2 ?_
        replace h := h.2
        refine J_xload_n dL_law_910 rfl rfl ?_
        refine J_iload_n dL_law_911 rfl rfl ?_
        refine J_iconst dL_law_912 (ii_c rfl) ?_
        refine J_iaddN dL_law_913 h.1 ?_
        replace h := h.2
        refine J_sld rfl dL_law_914 h.1.1 h.1.2 ?_
        replace h := h.2
        refine J_if_eq (tgt := 922) dL_law_915 (by decide) (fun c => ?_) (fun c => ?_)
        · replace h := h.1 c
          refine J_iconst dL_law_922 (ii_c rfl) ?_
          refine J_callV (as := [_, _]) (mc1 := 0) (ms1 := 0) (mc := 0) (ms := 0) dL_law_923 mv_X11_shut lk_L_120 sh_489 rfl (Nat.le_of_ble_eq_true rfl) (Nat.le_of_ble_eq_true rfl) h (fun r σ hq _ => ?_)
          obtain ⟨x53, I53, rfl, rfl, h⟩ := hq
          change J _ _ _ _ _ _ _ [vI x53, vI x52] _ _
          refine J_ic_eq (tgt := 1210) dL_law_926 (by decide) (fun c => ?_) (fun c => ?_)
          · replace h := h.1 c
            refine J_iincN dL_law_1210 rfl (by decide) h.1 ?_
            replace h := h.2
            change J _ _ _ _ _ _ [(0, _), (1, _), (2, _), (3, _)] _ _ _
            refine J_goto (tgt := 18) dL_law_1213 (by decide) ?_
            exact h
          · replace h := h.2 c
            refine J_iconst dL_law_929 (ii_c rfl) ?_
            exact J_retz dL_law_930 rfl (Or.inl rfl) h
        · replace h := h.2 c
          refine J_iconst dL_law_918 (ii_c rfl) ?_
          refine J_goto (tgt := 923) dL_law_919 (by decide) ?_
          refine J_callV (as := [_, _]) (mc1 := 0) (ms1 := 0) (mc := 0) (ms := 0) dL_law_923 mv_X11_shut lk_L_120 sh_489 rfl (Nat.le_of_ble_eq_true rfl) (Nat.le_of_ble_eq_true rfl) h (fun r σ hq _ => ?_)
          obtain ⟨x54, I54, rfl, rfl, h⟩ := hq
          change J _ _ _ _ _ _ _ [vI x54, vI x52] _ _
          refine J_ic_eq (tgt := 1210) dL_law_926 (by decide) (fun c => ?_) (fun c => ?_)
          · replace h := h.1 c
            refine J_iincN dL_law_1210 rfl (by decide) h.1 ?_
            replace h := h.2
            change J _ _ _ _ _ _ [(0, _), (1, _), (2, _), (3, _)] _ _ _
            refine J_goto (tgt := 18) dL_law_1213 (by decide) ?_
            exact h
          · replace h := h.2 c
            refine J_iconst dL_law_929 (ii_c rfl) ?_
            exact J_retz dL_law_930 rfl (Or.inl rfl) h
    · replace h := h.2.2.2.2.2.2.2.2.2.2.2.2.2.2.2.2.2.2.2.2.2.2.2.2.2.2.1 c
      refine J_tabIn (x := oA ((xs i.toNat).toInt) 63) (tgt := 931) (off := 898) dL_law_33 (by omega) (by omega) (by rw [c]; rfl) (by decide) ?_
      refine J_aload_n dL_law_931 rfl rfl ?_
      refine J_xload_n dL_law_932 rfl rfl ?_
      refine J_iload_n dL_law_933 rfl rfl ?_
      refine J_iconst dL_law_934 (ii_c rfl) ?_
      refine J_iaddN dL_law_935 h.1 ?_
      replace h := h.2
      refine J_sld rfl dL_law_936 h.1.1 h.1.2 ?_
      replace h := h.2
      refine J_callV (as := [_]) (mc1 := 0) (ms1 := 0) (mc := 0) (ms := 0) dL_law_937 mv_X10_sweep lk_L_121 sh_0 rfl (Nat.le_of_ble_eq_true rfl) (Nat.le_of_ble_eq_true rfl) h (fun r σ hq _ => ?_)
      obtain ⟨x55, I55, rfl, rfl, h⟩ := hq
      change J _ _ _ _ _ _ _ [vI x55] _ _
      refine J_aload_n dL_law_940 rfl rfl ?_
      refine J_xload_n dL_law_941 rfl rfl ?_
      refine J_iload_n dL_law_942 rfl rfl ?_
      refine J_iconst dL_law_943 (ii_c rfl) ?_
      refine J_iaddN dL_law_944 h.1 ?_
      replace h := h.2
      refine J_sld rfl dL_law_945 h.1.1 h.1.2 ?_
      replace h := h.2
      refine J_callV (as := [_]) (mc1 := 0) (ms1 := 0) (mc := 0) (ms := 0) dL_law_946 mv_X11_sweep lk_L_124 sh_489 rfl (Nat.le_of_ble_eq_true rfl) (Nat.le_of_ble_eq_true rfl) h (fun r σ hq _ => ?_)
      obtain ⟨x56, I56, rfl, rfl, h⟩ := hq
      change J _ _ _ _ _ _ _ [vI x56, vI x55] _ _
      refine J_ic_eq (tgt := 1210) dL_law_949 (by decide) (fun c => ?_) (fun c => ?_)
      · replace h := h.1 c
        refine J_iincN dL_law_1210 rfl (by decide) h.1 ?_
        replace h := h.2
        change J _ _ _ _ _ _ [(0, _), (1, _), (2, _), (3, _)] _ _ _
        refine J_goto (tgt := 18) dL_law_1213 (by decide) ?_
        exact h
      · replace h := h.2 c
        refine J_iconst dL_law_952 (ii_c rfl) ?_
        exact J_retz dL_law_953 rfl (Or.inl rfl) h
    · replace h := h.2.2.2.2.2.2.2.2.2.2.2.2.2.2.2.2.2.2.2.2.2.2.2.2.2.2.2.1 c
      refine J_tabIn (x := oA ((xs i.toNat).toInt) 63) (tgt := 954) (off := 921) dL_law_33 (by omega) (by omega) (by rw [c]; rfl) (by decide) ?_
      refine J_aload_n dL_law_954 rfl rfl ?_
      refine J_xload_n dL_law_955 rfl rfl ?_
      refine J_iload_n dL_law_956 rfl rfl ?_
      refine J_iconst dL_law_957 (ii_c rfl) ?_
      refine J_iaddN dL_law_958 h.1 ?_
      replace h := h.2
      refine J_sld rfl dL_law_959 h.1.1 h.1.2 ?_
      replace h := h.2
      refine J_callV (as := [_]) (mc1 := 0) (ms1 := 0) (mc := 0) (ms := 0) dL_law_960 mv_X10_routes lk_L_125 sh_0 rfl (Nat.le_of_ble_eq_true rfl) (Nat.le_of_ble_eq_true rfl) h (fun r σ hq _ => ?_)
      obtain ⟨x57, I57, rfl, rfl, h⟩ := hq
      change J _ _ _ _ _ _ _ [vI x57] _ _
      refine J_aload_n dL_law_963 rfl rfl ?_
      refine J_xload_n dL_law_964 rfl rfl ?_
      refine J_iload_n dL_law_965 rfl rfl ?_
      refine J_iconst dL_law_966 (ii_c rfl) ?_
      refine J_iaddN dL_law_967 h.1 ?_
      replace h := h.2
      refine J_sld rfl dL_law_968 h.1.1 h.1.2 ?_
      replace h := h.2
      refine J_callV (as := [_]) (mc1 := 0) (ms1 := 0) (mc := 0) (ms := 0) dL_law_969 mv_X11_routes lk_L_128 sh_489 rfl (Nat.le_of_ble_eq_true rfl) (Nat.le_of_ble_eq_true rfl) h (fun r σ hq _ => ?_)
      obtain ⟨x58, I58, rfl, rfl, h⟩ := hq
      change J _ _ _ _ _ _ _ [vI x58, vI x57] _ _
      refine J_ic_eq (tgt := 1210) dL_law_972 (by decide) (fun c => ?_) (fun c => ?_)
      · replace h := h.1 c
        refine J_iincN dL_law_1210 rfl (by decide) h.1 ?_
        replace h := h.2
        change J _ _ _ _ _ _ [(0, _), (1, _), (2, _), (3, _)] _ _ _
        refine J_goto (tgt := 18) dL_law_1213 (by decide) ?_
        exact h
      · replace h := h.2 c
        refine J_iconst dL_law_975 (ii_c rfl) ?_
        exact J_retz dL_law_976 rfl (Or.inl rfl) h
    · replace h := h.2.2.2.2.2.2.2.2.2.2.2.2.2.2.2.2.2.2.2.2.2.2.2.2.2.2.2.2.1 c
      refine J_tabIn (x := oA ((xs i.toNat).toInt) 63) (tgt := 977) (off := 944) dL_law_33 (by omega) (by omega) (by rw [c]; rfl) (by decide) ?_
      refine J_aload_n dL_law_977 rfl rfl ?_
      refine J_xload_n dL_law_978 rfl rfl ?_
      refine J_iload_n dL_law_979 rfl rfl ?_
      refine J_iconst dL_law_980 (ii_c rfl) ?_
      refine J_iaddN dL_law_981 h.1 ?_
      replace h := h.2
      refine J_sld rfl dL_law_982 h.1.1 h.1.2 ?_
      replace h := h.2
      refine J_xload_n dL_law_983 rfl rfl ?_
      refine J_iload_n dL_law_984 rfl rfl ?_
      refine J_iconst dL_law_985 (ii_c rfl) ?_
      refine J_iaddN dL_law_986 h.1 ?_
      replace h := h.2
      refine J_sld rfl dL_law_987 h.1.1 h.1.2 ?_
      replace h := h.2
      refine J_xload_n dL_law_988 rfl rfl ?_
      refine J_iload_n dL_law_989 rfl rfl ?_
      refine J_iconst dL_law_990 (ii_c rfl) ?_
      refine J_iaddN dL_law_991 h.1 ?_
      replace h := h.2
      refine J_sld rfl dL_law_992 h.1.1 h.1.2 ?_
      replace h := h.2
      refine J_callV (as := [_, _, _]) (mc1 := 0) (ms1 := 0) (mc := 0) (ms := 0) dL_law_993 mv_X10_route lk_L_129 sh_0 rfl (Nat.le_of_ble_eq_true rfl) (Nat.le_of_ble_eq_true rfl) h (fun r σ hq _ => ?_)
      obtain ⟨x59, I59, rfl, rfl, h⟩ := hq
      change J _ _ _ _ _ _ _ [vI x59] _ _
      refine J_aload_n dL_law_996 rfl rfl ?_
      refine J_xload_n dL_law_997 rfl rfl ?_
      refine J_iload_n dL_law_998 rfl rfl ?_
      refine J_iconst dL_law_999 (ii_c rfl) ?_
      refine J_iaddN dL_law_1000 h.1 ?_
      replace h := h.2
      refine J_sld rfl dL_law_1001 h.1.1 h.1.2 ?_
      replace h := h.2
      refine J_xload_n dL_law_1002 rfl rfl ?_
      refine J_iload_n dL_law_1003 rfl rfl ?_
      refine J_iconst dL_law_1004 (ii_c rfl) ?_
      refine J_iaddN dL_law_1005 h.1 ?_
      replace h := h.2
      refine J_sld rfl dL_law_1006 h.1.1 h.1.2 ?_
      replace h := h.2
      refine J_xload_n dL_law_1007 rfl rfl ?_
      refine J_iload_n dL_law_1008 rfl rfl ?_
      refine J_iconst dL_law_1009 (ii_c rfl) ?_
      refine J_iaddN dL_law_1010 h.1 ?_
      replace h := h.2
      refine J_sld rfl dL_law_1011 h.1.1 h.1.2 ?_
      replace h := h.2
      refine J_callV (as := [_, _, _]) (mc1 := 0) (ms1 := 0) (mc := 0) (ms := 0) dL_law_1012 mv_X11_route lk_L_132 sh_489 rfl (Nat.le_of_ble_eq_true rfl) (Nat.le_of_ble_eq_true rfl) h (fun r σ hq _ => ?_)
      obtain ⟨x60, I60, rfl, rfl, h⟩ := hq
      change J _ _ _ _ _ _ _ [vI x60, vI x59] _ _
      refine J_ic_eq (tgt := 1210) dL_law_1015 (by decide) (fun c => ?_) (fun c => ?_)
      · replace h := h.1 c
        refine J_iincN dL_law_1210 rfl (by decide) h.1 ?_
        replace h := h.2
        change J _ _ _ _ _ _ [(0, _), (1, _), (2, _), (3, _)] _ _ _
        refine J_goto (tgt := 18) dL_law_1213 (by decide) ?_
        exact h
      · replace h := h.2 c
        refine J_iconst dL_law_1018 (ii_c rfl) ?_
        exact J_retz dL_law_1019 rfl (Or.inl rfl) h
    · replace h := h.2.2.2.2.2.2.2.2.2.2.2.2.2.2.2.2.2.2.2.2.2.2.2.2.2.2.2.2.2.1 c
      refine J_tabIn (x := oA ((xs i.toNat).toInt) 63) (tgt := 1020) (off := 987) dL_law_33 (by omega) (by omega) (by rw [c]; rfl) (by decide) ?_
      refine J_aload_n dL_law_1020 rfl rfl ?_
      refine J_xload_n dL_law_1021 rfl rfl ?_
      refine J_iload_n dL_law_1022 rfl rfl ?_
      refine J_iconst dL_law_1023 (ii_c rfl) ?_
      refine J_iaddN dL_law_1024 h.1 ?_
      replace h := h.2
      refine J_sld rfl dL_law_1025 h.1.1 h.1.2 ?_
      replace h := h.2
      refine J_callV (as := [_]) (mc1 := 0) (ms1 := 0) (mc := 0) (ms := 0) dL_law_1026 mv_X10_together lk_L_133 sh_0 rfl (Nat.le_of_ble_eq_true rfl) (Nat.le_of_ble_eq_true rfl) h (fun r σ hq _ => ?_)
      obtain ⟨x61, I61, rfl, rfl, h⟩ := hq
      change J _ _ _ _ _ _ _ [vI x61] _ _
      refine J_aload_n dL_law_1029 rfl rfl ?_
      refine J_xload_n dL_law_1030 rfl rfl ?_
      refine J_iload_n dL_law_1031 rfl rfl ?_
      refine J_iconst dL_law_1032 (ii_c rfl) ?_
      refine J_iaddN dL_law_1033 h.1 ?_
      replace h := h.2
      refine J_sld rfl dL_law_1034 h.1.1 h.1.2 ?_
      replace h := h.2
      refine J_callV (as := [_]) (mc1 := 0) (ms1 := 0) (mc := 0) (ms := 0) dL_law_1035 mv_X11_together lk_L_136 sh_489 rfl (Nat.le_of_ble_eq_true rfl) (Nat.le_of_ble_eq_true rfl) h (fun r σ hq _ => ?_)
      obtain ⟨x62, I62, rfl, rfl, h⟩ := hq
      change J _ _ _ _ _ _ _ [vI x62, vI x61] _ _
      refine J_ic_eq (tgt := 1210) dL_law_1038 (by decide) (fun c => ?_) (fun c => ?_)
      · replace h := h.1 c
        refine J_iincN dL_law_1210 rfl (by decide) h.1 ?_
        replace h := h.2
        change J _ _ _ _ _ _ [(0, _), (1, _), (2, _), (3, _)] _ _ _
        refine J_goto (tgt := 18) dL_law_1213 (by decide) ?_
        exact h
      · replace h := h.2 c
        refine J_iconst dL_law_1041 (ii_c rfl) ?_
        exact J_retz dL_law_1042 rfl (Or.inl rfl) h
    · replace h := h.2.2.2.2.2.2.2.2.2.2.2.2.2.2.2.2.2.2.2.2.2.2.2.2.2.2.2.2.2.2.1 c
      refine J_tabIn (x := oA ((xs i.toNat).toInt) 63) (tgt := 1043) (off := 1010) dL_law_33 (by omega) (by omega) (by rw [c]; rfl) (by decide) ?_
      refine J_aload_n dL_law_1043 rfl rfl ?_
      refine J_callV (as := []) (mc1 := 0) (ms1 := 0) (mc := 0) (ms := 0) dL_law_1044 mv_X10_bars lk_L_137 sh_0 rfl (Nat.le_of_ble_eq_true rfl) (Nat.le_of_ble_eq_true rfl) h (fun r σ hq _ => ?_)
      obtain ⟨x63, I63, rfl, rfl, h⟩ := hq
      change J _ _ _ _ _ _ _ [vI x63] _ _
      refine J_aload_n dL_law_1047 rfl rfl ?_
      refine J_callV (as := []) (mc1 := 0) (ms1 := 0) (mc := 0) (ms := 0) dL_law_1048 mv_X11_bars lk_L_140 sh_489 rfl (Nat.le_of_ble_eq_true rfl) (Nat.le_of_ble_eq_true rfl) h (fun r σ hq _ => ?_)
      obtain ⟨x64, I64, rfl, rfl, h⟩ := hq
      change J _ _ _ _ _ _ _ [vI x64, vI x63] _ _
      refine J_ic_eq (tgt := 1210) dL_law_1051 (by decide) (fun c => ?_) (fun c => ?_)
      · replace h := h.1 c
        refine J_iincN dL_law_1210 rfl (by decide) h.1 ?_
        replace h := h.2
        change J _ _ _ _ _ _ [(0, _), (1, _), (2, _), (3, _)] _ _ _
        refine J_goto (tgt := 18) dL_law_1213 (by decide) ?_
        exact h
      · replace h := h.2 c
        refine J_iconst dL_law_1054 (ii_c rfl) ?_
        exact J_retz dL_law_1055 rfl (Or.inl rfl) h
    · replace h := h.2.2.2.2.2.2.2.2.2.2.2.2.2.2.2.2.2.2.2.2.2.2.2.2.2.2.2.2.2.2.2.1 c
      refine J_tabIn (x := oA ((xs i.toNat).toInt) 63) (tgt := 1056) (off := 1023) dL_law_33 (by omega) (by omega) (by rw [c]; rfl) (by decide) ?_
      refine J_aload_n dL_law_1056 rfl rfl ?_
      refine J_callV (as := []) (mc1 := 0) (ms1 := 0) (mc := 0) (ms := 0) dL_law_1057 mv_X10_take lk_L_141 sh_0 rfl (Nat.le_of_ble_eq_true rfl) (Nat.le_of_ble_eq_true rfl) h (fun r σ hq _ => ?_)
      obtain ⟨x65, I65, rfl, rfl, h⟩ := hq
      change J _ _ _ _ _ _ _ [vI x65] _ _
      refine J_aload_n dL_law_1060 rfl rfl ?_
      refine J_callV (as := []) (mc1 := 0) (ms1 := 0) (mc := 0) (ms := 0) dL_law_1061 mv_X11_take lk_L_144 sh_489 rfl (Nat.le_of_ble_eq_true rfl) (Nat.le_of_ble_eq_true rfl) h (fun r σ hq _ => ?_)
      obtain ⟨x66, I66, rfl, rfl, h⟩ := hq
      change J _ _ _ _ _ _ _ [vI x66, vI x65] _ _
      refine J_ic_eq (tgt := 1210) dL_law_1064 (by decide) (fun c => ?_) (fun c => ?_)
      · replace h := h.1 c
        refine J_iincN dL_law_1210 rfl (by decide) h.1 ?_
        replace h := h.2
        change J _ _ _ _ _ _ [(0, _), (1, _), (2, _), (3, _)] _ _ _
        refine J_goto (tgt := 18) dL_law_1213 (by decide) ?_
        exact h
      · replace h := h.2 c
        refine J_iconst dL_law_1067 (ii_c rfl) ?_
        exact J_retz dL_law_1068 rfl (Or.inl rfl) h
    · replace h := h.2.2.2.2.2.2.2.2.2.2.2.2.2.2.2.2.2.2.2.2.2.2.2.2.2.2.2.2.2.2.2.2.1 c
      refine J_tabIn (x := oA ((xs i.toNat).toInt) 63) (tgt := 1069) (off := 1036) dL_law_33 (by omega) (by omega) (by rw [c]; rfl) (by decide) ?_
      refine J_aload_n dL_law_1069 rfl rfl ?_
      refine J_callV (as := []) (mc1 := 0) (ms1 := 0) (mc := 0) (ms := 0) dL_law_1070 mv_X10_mend lk_L_145 sh_0 rfl (Nat.le_of_ble_eq_true rfl) (Nat.le_of_ble_eq_true rfl) h (fun r σ hq _ => ?_)
      obtain ⟨x67, I67, rfl, rfl, h⟩ := hq
      change J _ _ _ _ _ _ _ [vI x67] _ _
      refine J_aload_n dL_law_1073 rfl rfl ?_
      refine J_callV (as := []) (mc1 := 0) (ms1 := 0) (mc := 0) (ms := 0) dL_law_1074 mv_X11_mend lk_L_148 sh_489 rfl (Nat.le_of_ble_eq_true rfl) (Nat.le_of_ble_eq_true rfl) h (fun r σ hq _ => ?_)
      obtain ⟨x68, I68, rfl, rfl, h⟩ := hq
      change J _ _ _ _ _ _ _ [vI x68, vI x67] _ _
      refine J_ic_eq (tgt := 1210) dL_law_1077 (by decide) (fun c => ?_) (fun c => ?_)
      · replace h := h.1 c
        refine J_iincN dL_law_1210 rfl (by decide) h.1 ?_
        replace h := h.2
        change J _ _ _ _ _ _ [(0, _), (1, _), (2, _), (3, _)] _ _ _
        refine J_goto (tgt := 18) dL_law_1213 (by decide) ?_
        exact h
      · replace h := h.2 c
        refine J_iconst dL_law_1080 (ii_c rfl) ?_
        exact J_retz dL_law_1081 rfl (Or.inl rfl) h
    · replace h := h.2.2.2.2.2.2.2.2.2.2.2.2.2.2.2.2.2.2.2.2.2.2.2.2.2.2.2.2.2.2.2.2.2.1 c
      refine J_tabIn (x := oA ((xs i.toNat).toInt) 63) (tgt := 1082) (off := 1049) dL_law_33 (by omega) (by omega) (by rw [c]; rfl) (by decide) ?_
      refine J_aload_n dL_law_1082 rfl rfl ?_
      refine J_callV (as := []) (mc1 := 0) (ms1 := 0) (mc := 0) (ms := 0) dL_law_1083 mv_X10_turn lk_L_149 sh_0 rfl (Nat.le_of_ble_eq_true rfl) (Nat.le_of_ble_eq_true rfl) h (fun r σ hq _ => ?_)
      obtain ⟨x69, I69, rfl, rfl, h⟩ := hq
      change J _ _ _ _ _ _ _ [vI x69] _ _
      refine J_aload_n dL_law_1086 rfl rfl ?_
      refine J_callV (as := []) (mc1 := 0) (ms1 := 0) (mc := 0) (ms := 0) dL_law_1087 mv_X11_turn lk_L_152 sh_489 rfl (Nat.le_of_ble_eq_true rfl) (Nat.le_of_ble_eq_true rfl) h (fun r σ hq _ => ?_)
      obtain ⟨x70, I70, rfl, rfl, h⟩ := hq
      change J _ _ _ _ _ _ _ [vI x70, vI x69] _ _
      refine J_ic_eq (tgt := 1210) dL_law_1090 (by decide) (fun c => ?_) (fun c => ?_)
      · replace h := h.1 c
        refine J_iincN dL_law_1210 rfl (by decide) h.1 ?_
        replace h := h.2
        change J _ _ _ _ _ _ [(0, _), (1, _), (2, _), (3, _)] _ _ _
        refine J_goto (tgt := 18) dL_law_1213 (by decide) ?_
        exact h
      · replace h := h.2 c
        refine J_iconst dL_law_1093 (ii_c rfl) ?_
        exact J_retz dL_law_1094 rfl (Or.inl rfl) h
    · replace h := h.2.2.2.2.2.2.2.2.2.2.2.2.2.2.2.2.2.2.2.2.2.2.2.2.2.2.2.2.2.2.2.2.2.2.1 c
      refine J_tabIn (x := oA ((xs i.toNat).toInt) 63) (tgt := 1095) (off := 1062) dL_law_33 (by omega) (by omega) (by rw [c]; rfl) (by decide) ?_
      refine J_aload_n dL_law_1095 rfl rfl ?_
      refine J_xload_n dL_law_1096 rfl rfl ?_
      refine J_iload_n dL_law_1097 rfl rfl ?_
      refine J_iconst dL_law_1098 (ii_c rfl) ?_
      refine J_iaddN dL_law_1099 h.1 ?_
      replace h := h.2
      refine J_sld rfl dL_law_1100 h.1.1 h.1.2 ?_
      replace h := h.2
      refine J_callV (as := [_]) (mc1 := 0) (ms1 := 0) (mc := 0) (ms := 0) dL_law_1101 mv_X10_lots lk_L_153 sh_0 rfl (Nat.le_of_ble_eq_true rfl) (Nat.le_of_ble_eq_true rfl) h (fun r σ hq _ => ?_)
      obtain ⟨x71, I71, rfl, rfl, h⟩ := hq
      change J _ _ _ _ _ _ _ [vI x71] _ _
      refine J_aload_n dL_law_1104 rfl rfl ?_
      refine J_xload_n dL_law_1105 rfl rfl ?_
      refine J_iload_n dL_law_1106 rfl rfl ?_
      refine J_iconst dL_law_1107 (ii_c rfl) ?_
      refine J_iaddN dL_law_1108 h.1 ?_
      replace h := h.2
      refine J_sld rfl dL_law_1109 h.1.1 h.1.2 ?_
      replace h := h.2
      refine J_callV (as := [_]) (mc1 := 0) (ms1 := 0) (mc := 0) (ms := 0) dL_law_1110 mv_X11_lots lk_L_156 sh_489 rfl (Nat.le_of_ble_eq_true rfl) (Nat.le_of_ble_eq_true rfl) h (fun r σ hq _ => ?_)
      obtain ⟨x72, I72, rfl, rfl, h⟩ := hq
      change J _ _ _ _ _ _ _ [vI x72, vI x71] _ _
      refine J_ic_eq (tgt := 1210) dL_law_1113 (by decide) (fun c => ?_) (fun c => ?_)
      · replace h := h.1 c
        refine J_iincN dL_law_1210 rfl (by decide) h.1 ?_
        replace h := h.2
        change J _ _ _ _ _ _ [(0, _), (1, _), (2, _), (3, _)] _ _ _
        refine J_goto (tgt := 18) dL_law_1213 (by decide) ?_
        exact h
      · replace h := h.2 c
        refine J_iconst dL_law_1116 (ii_c rfl) ?_
        exact J_retz dL_law_1117 rfl (Or.inl rfl) h
    · replace h := h.2.2.2.2.2.2.2.2.2.2.2.2.2.2.2.2.2.2.2.2.2.2.2.2.2.2.2.2.2.2.2.2.2.2.2.1 c
      refine J_tabIn (x := oA ((xs i.toNat).toInt) 63) (tgt := 1118) (off := 1085) dL_law_33 (by omega) (by omega) (by rw [c]; rfl) (by decide) ?_
      refine J_aload_n dL_law_1118 rfl rfl ?_
      refine J_xload_n dL_law_1119 rfl rfl ?_
      refine J_iload_n dL_law_1120 rfl rfl ?_
      refine J_iconst dL_law_1121 (ii_c rfl) ?_
      refine J_iaddN dL_law_1122 h.1 ?_
      replace h := h.2
      refine J_sld rfl dL_law_1123 h.1.1 h.1.2 ?_
      replace h := h.2
      refine J_xload_n dL_law_1124 rfl rfl ?_
      refine J_iload_n dL_law_1125 rfl rfl ?_
      refine J_iconst dL_law_1126 (ii_c rfl) ?_
      refine J_iaddN dL_law_1127 h.1 ?_
      replace h := h.2
      refine J_sld rfl dL_law_1128 h.1.1 h.1.2 ?_
      replace h := h.2
      refine J_xload_n dL_law_1129 rfl rfl ?_
      refine J_iload_n dL_law_1130 rfl rfl ?_
      refine J_iconst dL_law_1131 (ii_c rfl) ?_
      refine J_iaddN dL_law_1132 h.1 ?_
      replace h := h.2
      refine J_sld rfl dL_law_1133 h.1.1 h.1.2 ?_
      replace h := h.2
      refine J_callV (as := [_, _, _]) (mc1 := 0) (ms1 := 0) (mc := 0) (ms := 0) dL_law_1134 mv_X10_dawn lk_L_157 sh_0 rfl (Nat.le_of_ble_eq_true rfl) (Nat.le_of_ble_eq_true rfl) h (fun r σ hq _ => ?_)
      obtain ⟨x73, I73, rfl, rfl, h⟩ := hq
      change J _ _ _ _ _ _ _ [vI x73] _ _
      refine J_aload_n dL_law_1137 rfl rfl ?_
      refine J_xload_n dL_law_1138 rfl rfl ?_
      refine J_iload_n dL_law_1139 rfl rfl ?_
      refine J_iconst dL_law_1140 (ii_c rfl) ?_
      refine J_iaddN dL_law_1141 h.1 ?_
      replace h := h.2
      refine J_sld rfl dL_law_1142 h.1.1 h.1.2 ?_
      replace h := h.2
      refine J_xload_n dL_law_1143 rfl rfl ?_
      refine J_iload_n dL_law_1144 rfl rfl ?_
      refine J_iconst dL_law_1145 (ii_c rfl) ?_
      refine J_iaddN dL_law_1146 h.1 ?_
      replace h := h.2
      refine J_sld rfl dL_law_1147 h.1.1 h.1.2 ?_
      replace h := h.2
      refine J_xload_n dL_law_1148 rfl rfl ?_
      refine J_iload_n dL_law_1149 rfl rfl ?_
      refine J_iconst dL_law_1150 (ii_c rfl) ?_
      refine J_iaddN dL_law_1151 h.1 ?_
      replace h := h.2
      refine J_sld rfl dL_law_1152 h.1.1 h.1.2 ?_
      replace h := h.2
      refine J_callV (as := [_, _, _]) (mc1 := 0) (ms1 := 0) (mc := 0) (ms := 0) dL_law_1153 mv_X11_dawn lk_L_160 sh_489 rfl (Nat.le_of_ble_eq_true rfl) (Nat.le_of_ble_eq_true rfl) h (fun r σ hq _ => ?_)
      obtain ⟨x74, I74, rfl, rfl, h⟩ := hq
      change J _ _ _ _ _ _ _ [vI x74, vI x73] _ _
      refine J_ic_eq (tgt := 1210) dL_law_1156 (by decide) (fun c => ?_) (fun c => ?_)
      · replace h := h.1 c
        refine J_iincN dL_law_1210 rfl (by decide) h.1 ?_
        replace h := h.2
        change J _ _ _ _ _ _ [(0, _), (1, _), (2, _), (3, _)] _ _ _
        refine J_goto (tgt := 18) dL_law_1213 (by decide) ?_
        exact h
      · replace h := h.2 c
        refine J_iconst dL_law_1159 (ii_c rfl) ?_
        exact J_retz dL_law_1160 rfl (Or.inl rfl) h
    · replace h := h.2.2.2.2.2.2.2.2.2.2.2.2.2.2.2.2.2.2.2.2.2.2.2.2.2.2.2.2.2.2.2.2.2.2.2.2.1 c
      refine J_tabIn (x := oA ((xs i.toNat).toInt) 63) (tgt := 1161) (off := 1128) dL_law_33 (by omega) (by omega) (by rw [c]; rfl) (by decide) ?_
      refine J_aload_n dL_law_1161 rfl rfl ?_
      refine J_callV (as := []) (mc1 := 0) (ms1 := 0) (mc := 0) (ms := 0) dL_law_1162 mv_X10_image lk_L_161 sh_0 rfl (Nat.le_of_ble_eq_true rfl) (Nat.le_of_ble_eq_true rfl) h (fun r σ hq _ => ?_)
      obtain ⟨x75, I75, rfl, rfl, h⟩ := hq
      change J _ _ _ _ _ _ _ [vI x75] _ _
      refine J_aload_n dL_law_1165 rfl rfl ?_
      refine J_callV (as := []) (mc1 := 0) (ms1 := 0) (mc := 0) (ms := 0) dL_law_1166 mv_X11_image lk_L_164 sh_489 rfl (Nat.le_of_ble_eq_true rfl) (Nat.le_of_ble_eq_true rfl) h (fun r σ hq _ => ?_)
      obtain ⟨x76, I76, rfl, rfl, h⟩ := hq
      change J _ _ _ _ _ _ _ [vI x76, vI x75] _ _
      refine J_ic_eq (tgt := 1210) dL_law_1169 (by decide) (fun c => ?_) (fun c => ?_)
      · replace h := h.1 c
        refine J_iincN dL_law_1210 rfl (by decide) h.1 ?_
        replace h := h.2
        change J _ _ _ _ _ _ [(0, _), (1, _), (2, _), (3, _)] _ _ _
        refine J_goto (tgt := 18) dL_law_1213 (by decide) ?_
        exact h
      · replace h := h.2 c
        refine J_iconst dL_law_1172 (ii_c rfl) ?_
        exact J_retz dL_law_1173 rfl (Or.inl rfl) h
    · replace h := h.2.2.2.2.2.2.2.2.2.2.2.2.2.2.2.2.2.2.2.2.2.2.2.2.2.2.2.2.2.2.2.2.2.2.2.2.2.1 c
      refine J_tabIn (x := oA ((xs i.toNat).toInt) 63) (tgt := 1174) (off := 1141) dL_law_33 (by omega) (by omega) (by rw [c]; rfl) (by decide) ?_
      refine J_aload_n dL_law_1174 rfl rfl ?_
      refine J_xload_n dL_law_1175 rfl rfl ?_
      refine J_iload_n dL_law_1176 rfl rfl ?_
      refine J_iconst dL_law_1177 (ii_c rfl) ?_
      refine J_iaddN dL_law_1178 h.1 ?_
      replace h := h.2
      refine J_sld rfl dL_law_1179 h.1.1 h.1.2 ?_
      replace h := h.2
      refine J_callV (as := [_]) (mc1 := 0) (ms1 := 0) (mc := 0) (ms := 0) dL_law_1180 mv_X10_octet lk_L_165 sh_0 rfl (Nat.le_of_ble_eq_true rfl) (Nat.le_of_ble_eq_true rfl) h (fun r σ hq _ => ?_)
      obtain ⟨x77, I77, rfl, rfl, h⟩ := hq
      change J _ _ _ _ _ _ _ [vI x77] _ _
      refine J_aload_n dL_law_1183 rfl rfl ?_
      refine J_xload_n dL_law_1184 rfl rfl ?_
      refine J_iload_n dL_law_1185 rfl rfl ?_
      refine J_iconst dL_law_1186 (ii_c rfl) ?_
      refine J_iaddN dL_law_1187 h.1 ?_
      replace h := h.2
      refine J_sld rfl dL_law_1188 h.1.1 h.1.2 ?_
      replace h := h.2
      refine J_callV (as := [_]) (mc1 := 0) (ms1 := 0) (mc := 0) (ms := 0) dL_law_1189 mv_X11_octet lk_L_168 sh_489 rfl (Nat.le_of_ble_eq_true rfl) (Nat.le_of_ble_eq_true rfl) h (fun r σ hq _ => ?_)
      obtain ⟨x78, I78, rfl, rfl, h⟩ := hq
      change J _ _ _ _ _ _ _ [vI x78, vI x77] _ _
      refine J_ic_eq (tgt := 1210) dL_law_1192 (by decide) (fun c => ?_) (fun c => ?_)
      · replace h := h.1 c
        refine J_iincN dL_law_1210 rfl (by decide) h.1 ?_
        replace h := h.2
        change J _ _ _ _ _ _ [(0, _), (1, _), (2, _), (3, _)] _ _ _
        refine J_goto (tgt := 18) dL_law_1213 (by decide) ?_
        exact h
      · replace h := h.2 c
        refine J_iconst dL_law_1195 (ii_c rfl) ?_
        exact J_retz dL_law_1196 rfl (Or.inl rfl) h
    · replace h := h.2.2.2.2.2.2.2.2.2.2.2.2.2.2.2.2.2.2.2.2.2.2.2.2.2.2.2.2.2.2.2.2.2.2.2.2.2.2 c
      refine J_tabIn (x := oA ((xs i.toNat).toInt) 63) (tgt := 1197) (off := 1164) dL_law_33 (by omega) (by omega) (by rw [c]; rfl) (by decide) ?_
      refine J_aload_n dL_law_1197 rfl rfl ?_
      refine J_callV (as := []) (mc1 := 0) (ms1 := 0) (mc := 0) (ms := 0) dL_law_1198 mv_X10_back lk_L_169 sh_0 rfl (Nat.le_of_ble_eq_true rfl) (Nat.le_of_ble_eq_true rfl) h (fun r σ hq _ => ?_)
      obtain ⟨x79, I79, rfl, rfl, h⟩ := hq
      change J _ _ _ _ _ _ _ [vI x79] _ _
      refine J_aload_n dL_law_1201 rfl rfl ?_
      refine J_callV (as := []) (mc1 := 0) (ms1 := 0) (mc := 0) (ms := 0) dL_law_1202 mv_X11_back lk_L_172 sh_489 rfl (Nat.le_of_ble_eq_true rfl) (Nat.le_of_ble_eq_true rfl) h (fun r σ hq _ => ?_)
      obtain ⟨x80, I80, rfl, rfl, h⟩ := hq
      change J _ _ _ _ _ _ _ [vI x80, vI x79] _ _
      refine J_ic_eq (tgt := 1210) dL_law_1205 (by decide) (fun c => ?_) (fun c => ?_)
      · replace h := h.1 c
        refine J_iincN dL_law_1210 rfl (by decide) h.1 ?_
        replace h := h.2
        change J _ _ _ _ _ _ [(0, _), (1, _), (2, _), (3, _)] _ _ _
        refine J_goto (tgt := 18) dL_law_1213 (by decide) ?_
        exact h
      · replace h := h.2 c
        refine J_iconst dL_law_1208 (ii_c rfl) ?_
        exact J_retz dL_law_1209 rfl (Or.inl rfl) h
