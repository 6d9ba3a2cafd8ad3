def zLaw_745 (l : Launch) (g : am_G) (d : Nat) (kc ks : Nat) (a1 : Nat) (a2 : Nat) (a3 : Nat) (i4 : Int32) (h : am_H) (Q : Option Value → am_H → Prop) : Prop := am_J l g mLaw (d + 1) (kc, ks, false) 23 [(0, .retAddr 0), (1, .ref a1), (2, .ref a2), (3, .ref a3), (4, .int (i4 + 7))] [] h Q
set_option maxRecDepth 4000 in
theorem rLaw_745 {l : Launch} {g : am_G} {d : Nat} {kc ks : Nat} {a1 : Nat} {a2 : Nat} {a3 : Nat} {i4 : Int32} {h : am_H} {Q : Option Value → am_H → Prop} (H : zLaw_745 l g d kc ks a1 a2 a3 i4 h Q) : am_J l g mLaw (d + 1) (kc, ks, false) 745 [(0, .retAddr 0), (1, .ref a1), (2, .ref a2), (3, .ref a3), (4, .int i4)] [] h Q := by
  unfold zLaw_745 at H
  refine J_iinc (v := (i4 + 7)) (L' := [(4, .int (i4 + 7)), (0, .retAddr 0), (1, .ref a1), (2, .ref a2), (3, .ref a3)]) dL_law_745 4 rfl rfl (by decide) rfl ?_
  refine J_goto (tgt := 23) dL_law_748 (by decide) ?_
  exact J_pick [1, 2, 3, 4, 0] rfl H
def zLaw_556 (l : Launch) (g : am_G) (d : Nat) (kc ks : Nat) (a1 : Nat) (a2 : Nat) (a3 : Nat) (i4 : Int32) (h : am_H) (Q : Option Value → am_H → Prop) : Prop := zLaw_745 l g d kc ks a1 a2 a3 i4  h Q
set_option maxRecDepth 4000 in
theorem rLaw_556 {l : Launch} {g : am_G} {d : Nat} {kc ks : Nat} {a1 : Nat} {a2 : Nat} {a3 : Nat} {i4 : Int32} {h : am_H} {Q : Option Value → am_H → Prop} (H : zLaw_556 l g d kc ks a1 a2 a3 i4 h Q) : am_J l g mLaw (d + 1) (kc, ks, false) 556 [(0, .retAddr 0), (1, .ref a1), (2, .ref a2), (3, .ref a3), (4, .int i4)] [] h Q := by
  unfold zLaw_556 at H
  refine J_goto (tgt := 745) dL_law_556 (by decide) ?_
  exact J_pick [0, 1, 2, 3, 4] rfl (rLaw_745 H)
def zLaw_23 (l : Launch) (g : am_G) (d : Nat) (kc ks : Nat) (a1 : Nat) (a2 : Nat) (a3 : Nat) (i4 : Int32) (h : am_H) (Q : Option Value → am_H → Prop) : Prop := ((((Int32.ofNat g.2.2.2.1.2.1) - 7) < i4 → Q (some (.int 1)) h) ∧ (¬ ((Int32.ofNat g.2.2.2.1.2.1) - 7) < i4 → (vp_in i4 g.2.2.2.1.2.1 ∧ ((Int32.toInt ((g.2.2.2.1.2.2 (Int32.toNatClampNeg i4)) &&& 15) < 0 ∨ 15 < Int32.toInt ((g.2.2.2.1.2.2 (Int32.toNatClampNeg i4)) &&& 15) → zLaw_745 l g d kc ks a1 a2 a3 i4  h Q) ∧ (((g.2.2.2.1.2.2 (Int32.toNatClampNeg i4)) &&& 15) = 0 → (vp_in (i4 + 1) g.2.2.2.1.2.1 ∧ (vp_in (i4 + 2) g.2.2.2.1.2.1 ∧ (vp_in (i4 + 3) g.2.2.2.1.2.1 ∧ (vp_in (i4 + 4) g.2.2.2.1.2.1 ∧ (vp_in (i4 + 5) g.2.2.2.1.2.1 ∧ (vp_in (i4 + 6) g.2.2.2.1.2.1 ∧ cv_I l g mX8_feed d false 8 a1 [.long ((((Int32.toInt64 (g.2.2.2.1.2.2 (Int32.toNatClampNeg (i4 + 1)))) : Int64) <<< (Int32.toInt64 32 &&& (63 : Int64))) ||| ((Int32.toInt64 (g.2.2.2.1.2.2 (Int32.toNatClampNeg (i4 + 2)))) &&& 4294967295)), .long ((((Int32.toInt64 (g.2.2.2.1.2.2 (Int32.toNatClampNeg (i4 + 3)))) : Int64) <<< (Int32.toInt64 32 &&& (63 : Int64))) ||| ((Int32.toInt64 (g.2.2.2.1.2.2 (Int32.toNatClampNeg (i4 + 4)))) &&& 4294967295)), .long ((((Int32.toInt64 (g.2.2.2.1.2.2 (Int32.toNatClampNeg (i4 + 5)))) : Int64) <<< (Int32.toInt64 32 &&& (63 : Int64))) ||| ((Int32.toInt64 (g.2.2.2.1.2.2 (Int32.toNatClampNeg (i4 + 6)))) &&& 4294967295))] h (fun v9 h8 => (vp_in (i4 + 1) g.2.2.2.1.2.1 ∧ (vp_in (i4 + 2) g.2.2.2.1.2.1 ∧ (vp_in (i4 + 3) g.2.2.2.1.2.1 ∧ (vp_in (i4 + 4) g.2.2.2.1.2.1 ∧ (vp_in (i4 + 5) g.2.2.2.1.2.1 ∧ (vp_in (i4 + 6) g.2.2.2.1.2.1 ∧ cv_I l g mX9_feed d false 9 a2 [.long ((((Int32.toInt64 (g.2.2.2.1.2.2 (Int32.toNatClampNeg (i4 + 1)))) : Int64) <<< (Int32.toInt64 32 &&& (63 : Int64))) ||| ((Int32.toInt64 (g.2.2.2.1.2.2 (Int32.toNatClampNeg (i4 + 2)))) &&& 4294967295)), .long ((((Int32.toInt64 (g.2.2.2.1.2.2 (Int32.toNatClampNeg (i4 + 3)))) : Int64) <<< (Int32.toInt64 32 &&& (63 : Int64))) ||| ((Int32.toInt64 (g.2.2.2.1.2.2 (Int32.toNatClampNeg (i4 + 4)))) &&& 4294967295)), .long ((((Int32.toInt64 (g.2.2.2.1.2.2 (Int32.toNatClampNeg (i4 + 5)))) : Int64) <<< (Int32.toInt64 32 &&& (63 : Int64))) ||| ((Int32.toInt64 (g.2.2.2.1.2.2 (Int32.toNatClampNeg (i4 + 6)))) &&& 4294967295))] h8 (fun v17 h16 => ((v9 = v17 → zLaw_745 l g d kc ks a1 a2 a3 i4  h16 Q) ∧ (¬ v9 = v17 → Q (some (.int 0)) h16))))))))))))))))) ∧ (((g.2.2.2.1.2.2 (Int32.toNatClampNeg i4)) &&& 15) = 1 → cv_I l g mX8_weave d false 8 a1 [] h (fun v19 h18 => cv_I l g mX9_weave d false 9 a2 [] h18 (fun v21 h20 => ((v19 = v21 → zLaw_745 l g d kc ks a1 a2 a3 i4  h20 Q) ∧ (¬ v19 = v21 → Q (some (.int 0)) h20))))) ∧ (((g.2.2.2.1.2.2 (Int32.toNatClampNeg i4)) &&& 15) = 2 → (vp_in (i4 + 1) g.2.2.2.1.2.1 ∧ (vp_in (i4 + 2) g.2.2.2.1.2.1 ∧ cv_I l g mX8_lay d false 8 a1 [.int (g.2.2.2.1.2.2 (Int32.toNatClampNeg (i4 + 1))), .int (g.2.2.2.1.2.2 (Int32.toNatClampNeg (i4 + 2)))] h (fun v25 h24 => (vp_in (i4 + 1) g.2.2.2.1.2.1 ∧ (vp_in (i4 + 2) g.2.2.2.1.2.1 ∧ cv_I l g mX9_lay_ d false 9 a2 [.int (g.2.2.2.1.2.2 (Int32.toNatClampNeg (i4 + 1))), .int (g.2.2.2.1.2.2 (Int32.toNatClampNeg (i4 + 2)))] h24 (fun v29 h28 => ((v25 = v29 → zLaw_745 l g d kc ks a1 a2 a3 i4  h28 Q) ∧ (¬ v25 = v29 → Q (some (.int 0)) h28))))))))) ∧ (((g.2.2.2.1.2.2 (Int32.toNatClampNeg i4)) &&& 15) = 3 → (vp_in (i4 + 1) g.2.2.2.1.2.1 ∧ (vp_in (i4 + 2) g.2.2.2.1.2.1 ∧ (vp_in (i4 + 3) g.2.2.2.1.2.1 ∧ cv_I l g mX8_at d false 8 a1 [.int (g.2.2.2.1.2.2 (Int32.toNatClampNeg (i4 + 1))), .int (g.2.2.2.1.2.2 (Int32.toNatClampNeg (i4 + 2))), .int (g.2.2.2.1.2.2 (Int32.toNatClampNeg (i4 + 3)))] h (fun v34 h33 => (vp_in (i4 + 1) g.2.2.2.1.2.1 ∧ (vp_in (i4 + 2) g.2.2.2.1.2.1 ∧ (vp_in (i4 + 3) g.2.2.2.1.2.1 ∧ cv_I l g mX9_at d false 9 a2 [.int (g.2.2.2.1.2.2 (Int32.toNatClampNeg (i4 + 1))), .int (g.2.2.2.1.2.2 (Int32.toNatClampNeg (i4 + 2))), .int (g.2.2.2.1.2.2 (Int32.toNatClampNeg (i4 + 3)))] h33 (fun v39 h38 => ((v34 = v39 → zLaw_745 l g d kc ks a1 a2 a3 i4  h38 Q) ∧ (¬ v34 = v39 → Q (some (.int 0)) h38))))))))))) ∧ (((g.2.2.2.1.2.2 (Int32.toNatClampNeg i4)) &&& 15) = 4 → cv_I l g mX8_add d false 8 a1 [] h (fun v41 h40 => cv_I l g mX9_add d false 9 a2 [] h40 (fun v43 h42 => ((v41 = v43 → zLaw_745 l g d kc ks a1 a2 a3 i4  h42 Q) ∧ (¬ v41 = v43 → Q (some (.int 0)) h42))))) ∧ (((g.2.2.2.1.2.2 (Int32.toNatClampNeg i4)) &&& 15) = 5 → (vp_in (i4 + 1) g.2.2.2.1.2.1 ∧ cv_I l g mX8_take d false 8 a1 [.int (g.2.2.2.1.2.2 (Int32.toNatClampNeg (i4 + 1)))] h (fun v46 h45 => (vp_in (i4 + 1) g.2.2.2.1.2.1 ∧ cv_I l g mX9_take d false 9 a2 [.int (g.2.2.2.1.2.2 (Int32.toNatClampNeg (i4 + 1)))] h45 (fun v49 h48 => ((v46 = v49 → zLaw_745 l g d kc ks a1 a2 a3 i4  h48 Q) ∧ (¬ v46 = v49 → Q (some (.int 0)) h48))))))) ∧ (((g.2.2.2.1.2.2 (Int32.toNatClampNeg i4)) &&& 15) = 6 → (vp_in (i4 + 1) g.2.2.2.1.2.1 ∧ (vp_in (i4 + 2) g.2.2.2.1.2.1 ∧ cv_I l g mX8_link d false 8 a1 [.int (g.2.2.2.1.2.2 (Int32.toNatClampNeg (i4 + 1))), .int (g.2.2.2.1.2.2 (Int32.toNatClampNeg (i4 + 2)))] h (fun v53 h52 => (vp_in (i4 + 1) g.2.2.2.1.2.1 ∧ (vp_in (i4 + 2) g.2.2.2.1.2.1 ∧ cv_I l g mX9_link d false 9 a2 [.int (g.2.2.2.1.2.2 (Int32.toNatClampNeg (i4 + 1))), .int (g.2.2.2.1.2.2 (Int32.toNatClampNeg (i4 + 2)))] h52 (fun v57 h56 => ((v53 = v57 → zLaw_745 l g d kc ks a1 a2 a3 i4  h56 Q) ∧ (¬ v53 = v57 → Q (some (.int 0)) h56))))))))) ∧ (((g.2.2.2.1.2.2 (Int32.toNatClampNeg i4)) &&& 15) = 7 → (vp_in (i4 + 1) g.2.2.2.1.2.1 ∧ (vp_in (i4 + 2) g.2.2.2.1.2.1 ∧ cv_I l g mX8_unlink d false 8 a1 [.int (g.2.2.2.1.2.2 (Int32.toNatClampNeg (i4 + 1))), .int (g.2.2.2.1.2.2 (Int32.toNatClampNeg (i4 + 2)))] h (fun v61 h60 => (vp_in (i4 + 1) g.2.2.2.1.2.1 ∧ (vp_in (i4 + 2) g.2.2.2.1.2.1 ∧ cv_I l g mX9_unlink d false 9 a2 [.int (g.2.2.2.1.2.2 (Int32.toNatClampNeg (i4 + 1))), .int (g.2.2.2.1.2.2 (Int32.toNatClampNeg (i4 + 2)))] h60 (fun v65 h64 => ((v61 = v65 → zLaw_745 l g d kc ks a1 a2 a3 i4  h64 Q) ∧ (¬ v61 = v65 → Q (some (.int 0)) h64))))))))) ∧ (((g.2.2.2.1.2.2 (Int32.toNatClampNeg i4)) &&& 15) = 8 → cv_I l g mX8_mend d false 8 a1 [] h (fun v67 h66 => cv_I l g mX9_mend d false 9 a2 [] h66 (fun v69 h68 => ((v67 = v69 → zLaw_745 l g d kc ks a1 a2 a3 i4  h68 Q) ∧ (¬ v67 = v69 → Q (some (.int 0)) h68))))) ∧ (((g.2.2.2.1.2.2 (Int32.toNatClampNeg i4)) &&& 15) = 9 → (vp_in (i4 + 1) g.2.2.2.1.2.1 ∧ (vp_in (i4 + 2) g.2.2.2.1.2.1 ∧ lk_L l g d a1 a3 (g.2.2.2.1.2.2 (Int32.toNatClampNeg (i4 + 1))) (g.2.2.2.1.2.2 (Int32.toNatClampNeg (i4 + 2))) h (fun v73 h72 => (vp_in (i4 + 1) g.2.2.2.1.2.1 ∧ (vp_in (i4 + 2) g.2.2.2.1.2.1 ∧ cv_I l g mX9_look d false 9 a2 [.int (g.2.2.2.1.2.2 (Int32.toNatClampNeg (i4 + 1))), .int (g.2.2.2.1.2.2 (Int32.toNatClampNeg (i4 + 2)))] h72 (fun v77 h76 => cv_I l g mX9_thrown d false 9 a2 [] h76 (fun v79 h78 => ((v79 = v73 → ((¬ v73 = 0 → zLaw_556 l g d (kc + 1) (ks + 6) a1 a2 a3 i4  h78 Q) ∧ (v73 = 0 → al_L h78 a3 0 (fun v80 => (((lg_cmp v80 (Int32.toInt64 v77)) = 0 → zLaw_556 l g d (kc + 1) (ks + 6) a1 a2 a3 i4  h78 Q) ∧ (¬ (lg_cmp v80 (Int32.toInt64 v77)) = 0 → Q (some (.int 0)) h78)))))) ∧ (¬ v79 = v73 → Q (some (.int 0)) h78)))))))))) ∧ (((g.2.2.2.1.2.2 (Int32.toNatClampNeg i4)) &&& 15) = 10 → (vp_in (i4 + 1) g.2.2.2.1.2.1 ∧ (vp_in (i4 + 2) g.2.2.2.1.2.1 ∧ cv_I l g mX8_over d false 8 a1 [.int (g.2.2.2.1.2.2 (Int32.toNatClampNeg (i4 + 1))), .int (g.2.2.2.1.2.2 (Int32.toNatClampNeg (i4 + 2)))] h (fun v84 h83 => (vp_in (i4 + 1) g.2.2.2.1.2.1 ∧ (vp_in (i4 + 2) g.2.2.2.1.2.1 ∧ cv_I l g mX9_over d false 9 a2 [.int (g.2.2.2.1.2.2 (Int32.toNatClampNeg (i4 + 1))), .int (g.2.2.2.1.2.2 (Int32.toNatClampNeg (i4 + 2)))] h83 (fun v88 h87 => ((v84 = v88 → zLaw_745 l g d kc ks a1 a2 a3 i4  h87 Q) ∧ (¬ v84 = v88 → Q (some (.int 0)) h87))))))))) ∧ (((g.2.2.2.1.2.2 (Int32.toNatClampNeg i4)) &&& 15) = 11 → (vp_in (i4 + 1) g.2.2.2.1.2.1 ∧ (vp_in (i4 + 2) g.2.2.2.1.2.1 ∧ cv_I l g mX8_linked d false 8 a1 [.int (g.2.2.2.1.2.2 (Int32.toNatClampNeg (i4 + 1))), .int (g.2.2.2.1.2.2 (Int32.toNatClampNeg (i4 + 2)))] h (fun v92 h91 => (vp_in (i4 + 1) g.2.2.2.1.2.1 ∧ (vp_in (i4 + 2) g.2.2.2.1.2.1 ∧ cv_I l g mX9_linked d false 9 a2 [.int (g.2.2.2.1.2.2 (Int32.toNatClampNeg (i4 + 1))), .int (g.2.2.2.1.2.2 (Int32.toNatClampNeg (i4 + 2)))] h91 (fun v96 h95 => ((v92 = v96 → zLaw_745 l g d kc ks a1 a2 a3 i4  h95 Q) ∧ (¬ v92 = v96 → Q (some (.int 0)) h95))))))))) ∧ (((g.2.2.2.1.2.2 (Int32.toNatClampNeg i4)) &&& 15) = 12 → cv_I l g mX8_fewest d false 8 a1 [] h (fun v98 h97 => cv_I l g mX9_fewest d false 9 a2 [] h97 (fun v100 h99 => ((v98 = v100 → zLaw_745 l g d kc ks a1 a2 a3 i4  h99 Q) ∧ (¬ v98 = v100 → Q (some (.int 0)) h99))))) ∧ (((g.2.2.2.1.2.2 (Int32.toNatClampNeg i4)) &&& 15) = 13 → (vp_in (i4 + 1) g.2.2.2.1.2.1 ∧ cv_I l g mX8_order d false 8 a1 [.int (g.2.2.2.1.2.2 (Int32.toNatClampNeg (i4 + 1)))] h (fun v103 h102 => (vp_in (i4 + 1) g.2.2.2.1.2.1 ∧ cv_I l g mX9_order d false 9 a2 [.int (g.2.2.2.1.2.2 (Int32.toNatClampNeg (i4 + 1)))] h102 (fun v106 h105 => ((v103 = v106 → zLaw_745 l g d kc ks a1 a2 a3 i4  h105 Q) ∧ (¬ v103 = v106 → Q (some (.int 0)) h105))))))) ∧ (((g.2.2.2.1.2.2 (Int32.toNatClampNeg i4)) &&& 15) = 14 → (vp_in (i4 + 1) g.2.2.2.1.2.1 ∧ (vp_in (i4 + 2) g.2.2.2.1.2.1 ∧ (vp_in (i4 + 3) g.2.2.2.1.2.1 ∧ cv_I l g mX8_sizes d false 8 a1 [.int (g.2.2.2.1.2.2 (Int32.toNatClampNeg (i4 + 1))), .int (g.2.2.2.1.2.2 (Int32.toNatClampNeg (i4 + 2))), .int (g.2.2.2.1.2.2 (Int32.toNatClampNeg (i4 + 3)))] h (fun v111 h110 => (vp_in (i4 + 1) g.2.2.2.1.2.1 ∧ (vp_in (i4 + 2) g.2.2.2.1.2.1 ∧ (vp_in (i4 + 3) g.2.2.2.1.2.1 ∧ cv_I l g mX9_sizes d false 9 a2 [.int (g.2.2.2.1.2.2 (Int32.toNatClampNeg (i4 + 1))), .int (g.2.2.2.1.2.2 (Int32.toNatClampNeg (i4 + 2))), .int (g.2.2.2.1.2.2 (Int32.toNatClampNeg (i4 + 3)))] h110 (fun v116 h115 => ((v111 = v116 → zLaw_745 l g d kc ks a1 a2 a3 i4  h115 Q) ∧ (¬ v111 = v116 → Q (some (.int 0)) h115))))))))))) ∧ (((g.2.2.2.1.2.2 (Int32.toNatClampNeg i4)) &&& 15) = 15 → (vp_in (i4 + 1) g.2.2.2.1.2.1 ∧ cv_I l g mX8_count d false 8 a1 [.int (g.2.2.2.1.2.2 (Int32.toNatClampNeg (i4 + 1)))] h (fun v119 h118 => (vp_in (i4 + 1) g.2.2.2.1.2.1 ∧ cv_I l g mX9_count d false 9 a2 [.int (g.2.2.2.1.2.2 (Int32.toNatClampNeg (i4 + 1)))] h118 (fun v122 h121 => ((v119 = v122 → zLaw_745 l g d kc ks a1 a2 a3 i4  h121 Q) ∧ (¬ v119 = v122 → Q (some (.int 0)) h121)))))))))))
set_option maxRecDepth 4000 in
theorem rLaw_23 {l : Launch} {g : am_G} {d : Nat} {kc ks : Nat} {a1 : Nat} {a2 : Nat} {a3 : Nat} {i4 : Int32} {h : am_H} {Q : Option Value → am_H → Prop} (hkl : kc + 1 ≤ 601024 ∧ ks + 6 ≤ 7293034) (H : zLaw_23 l g d kc ks a1 a2 a3 i4 h Q) : am_J l g mLaw (d + 1) (kc, ks, false) 23 [(0, .retAddr 0), (1, .ref a1), (2, .ref a2), (3, .ref a3), (4, .int i4)] [] h Q := by
  unfold zLaw_23 at H
  have hk0 : kc ≤ 601024 ∧ ks ≤ 7293034 := ⟨by omega, by omega⟩
  have hk1 : kc + 1 ≤ 601024 ∧ ks + 6 ≤ 7293034 := hkl
  refine J_iload dL_law_23 4 rfl ?_
  refine J_sload_n dL_law_25 0 rfl ?_
  refine J_slen dL_law_26 ?_
  refine J_bipush (v := 7) dL_law_27 (by decide) ?_
  refine J_isub dL_law_29 ?_
  obtain ⟨H1, H2⟩ := H
  refine J_icmp_gt (tgt := 751) dL_law_30 (by decide) (fun hc => ?_) (fun hc => ?_)
  · replace H := H1 hc
    clear H1 H2
    refine J_iconst (v := 1) dL_law_751 (by decide) ?_
    exact J_iret dL_law_752 ⟨_, rfl, rfl⟩ ⟨hk0.1, hk0.2, fun c => by cases c⟩ H
  · replace H := H2 hc
    clear H1 H2
    refine J_sload_n dL_law_33 0 rfl ?_
    refine J_iload dL_law_34 4 rfl ?_
    obtain ⟨hk, H⟩ := H
    refine J_sld dL_law_36 hk ?_
    refine J_bipush (v := 15) dL_law_37 (by decide) ?_
    refine J_iand dL_law_39 ?_
    obtain ⟨H0, H⟩ := H
    by_cases hsw : Int32.toInt ((g.2.2.2.1.2.2 (Int32.toNatClampNeg i4)) &&& 15) < 0 ∨ 15 < Int32.toInt ((g.2.2.2.1.2.2 (Int32.toNatClampNeg i4)) &&& 15)
    · replace H := H0 hsw
      refine J_tableOut (tgt := 745) dL_law_40 hsw (by decide) ?_
      exact J_pick [0, 1, 2, 3, 4] rfl (rLaw_745 H)
    · rcases am_sw_0_15 hsw with he | he | he | he | he | he | he | he | he | he | he | he | he | he | he | he
      · replace H := H.1 he
        refine J_tableIn (off := 80) (tgt := 120) dL_law_40 (by rw [he]; decide) (by rw [he]; decide) (by rw [he]; decide) (by decide) ?_
        refine J_aload_n dL_law_120 1 rfl ?_
        refine J_sload_n dL_law_121 0 rfl ?_
        refine J_iload dL_law_122 4 rfl ?_
        refine J_iconst (v := 1) dL_law_124 (by decide) ?_
        refine J_iadd dL_law_125 ?_
        obtain ⟨hk, H⟩ := H
        refine J_sld dL_law_126 hk ?_
        refine J_i2l dL_law_127 ?_
        refine J_bipush (v := 32) dL_law_128 (by decide) ?_
        refine J_lshl dL_law_130 ?_
        refine J_sload_n dL_law_131 0 rfl ?_
        refine J_iload dL_law_132 4 rfl ?_
        refine J_iconst (v := 2) dL_law_134 (by decide) ?_
        refine J_iadd dL_law_135 ?_
        obtain ⟨hk, H⟩ := H
        refine J_sld dL_law_136 hk ?_
        refine J_i2l dL_law_137 ?_
        refine J_ldc2 (v := 4294967295) dL_law_138 qL_19 ?_
        refine J_land dL_law_141 ?_
        refine J_lor dL_law_142 ?_
        refine J_sload_n dL_law_143 0 rfl ?_
        refine J_iload dL_law_144 4 rfl ?_
        refine J_iconst (v := 3) dL_law_146 (by decide) ?_
        refine J_iadd dL_law_147 ?_
        obtain ⟨hk, H⟩ := H
        refine J_sld dL_law_148 hk ?_
        refine J_i2l dL_law_149 ?_
        refine J_bipush (v := 32) dL_law_150 (by decide) ?_
        refine J_lshl dL_law_152 ?_
        refine J_sload_n dL_law_153 0 rfl ?_
        refine J_iload dL_law_154 4 rfl ?_
        refine J_iconst (v := 4) dL_law_156 (by decide) ?_
        refine J_iadd dL_law_157 ?_
        obtain ⟨hk, H⟩ := H
        refine J_sld dL_law_158 hk ?_
        refine J_i2l dL_law_159 ?_
        refine J_ldc2 (v := 4294967295) dL_law_160 qL_19 ?_
        refine J_land dL_law_163 ?_
        refine J_lor dL_law_164 ?_
        refine J_sload_n dL_law_165 0 rfl ?_
        refine J_iload dL_law_166 4 rfl ?_
        refine J_iconst (v := 5) dL_law_168 (by decide) ?_
        refine J_iadd dL_law_169 ?_
        obtain ⟨hk, H⟩ := H
        refine J_sld dL_law_170 hk ?_
        refine J_i2l dL_law_171 ?_
        refine J_bipush (v := 32) dL_law_172 (by decide) ?_
        refine J_lshl dL_law_174 ?_
        refine J_sload_n dL_law_175 0 rfl ?_
        refine J_iload dL_law_176 4 rfl ?_
        refine J_bipush (v := 6) dL_law_178 (by decide) ?_
        refine J_iadd dL_law_180 ?_
        obtain ⟨hk, H⟩ := H
        refine J_sld dL_law_181 hk ?_
        refine J_i2l dL_law_182 ?_
        refine J_ldc2 (v := 4294967295) dL_law_183 qL_19 ?_
        refine J_land dL_law_186 ?_
        refine J_lor dL_law_187 ?_
        obtain ⟨⟨fs, hh⟩, H⟩ := H
        refine J_callV (As := [.long ((((Int32.toInt64 (g.2.2.2.1.2.2 (Int32.toNatClampNeg (i4 + 1)))) : Int64) <<< (Int32.toInt64 32 &&& (63 : Int64))) ||| ((Int32.toInt64 (g.2.2.2.1.2.2 (Int32.toNatClampNeg (i4 + 2)))) &&& 4294967295)), .long ((((Int32.toInt64 (g.2.2.2.1.2.2 (Int32.toNatClampNeg (i4 + 3)))) : Int64) <<< (Int32.toInt64 32 &&& (63 : Int64))) ||| ((Int32.toInt64 (g.2.2.2.1.2.2 (Int32.toNatClampNeg (i4 + 4)))) &&& 4294967295)), .long ((((Int32.toInt64 (g.2.2.2.1.2.2 (Int32.toNatClampNeg (i4 + 5)))) : Int64) <<< (Int32.toInt64 32 &&& (63 : Int64))) ||| ((Int32.toInt64 (g.2.2.2.1.2.2 (Int32.toNatClampNeg (i4 + 6)))) &&& 4294967295))]) (S := []) (b := a1) dL_law_188 mX8_feed_ok kL_21 rfl (by decide) (Nat.le_of_ble_eq_true rfl) hh rfl rfl (Nat.le_of_ble_eq_true rfl) ⟨hk0.1, hk0.2⟩ (fun k h' hp => ?_) H (fun r h8 hp => ?_)
        · obtain ⟨_, hv, -⟩ := hp; cases hv
        obtain ⟨v9, rfl, H⟩ := hp
        show am_J l g mLaw (d + 1) (kc, ks, false) 191 [(0, .retAddr 0), (1, .ref a1), (2, .ref a2), (3, .ref a3), (4, .int i4)] [.int v9] h8 Q
        refine J_aload_n dL_law_191 2 rfl ?_
        refine J_sload_n dL_law_192 0 rfl ?_
        refine J_iload dL_law_193 4 rfl ?_
        refine J_iconst (v := 1) dL_law_195 (by decide) ?_
        refine J_iadd dL_law_196 ?_
        obtain ⟨hk, H⟩ := H
        refine J_sld dL_law_197 hk ?_
        refine J_i2l dL_law_198 ?_
        refine J_bipush (v := 32) dL_law_199 (by decide) ?_
        refine J_lshl dL_law_201 ?_
        refine J_sload_n dL_law_202 0 rfl ?_
        refine J_iload dL_law_203 4 rfl ?_
        refine J_iconst (v := 2) dL_law_205 (by decide) ?_
        refine J_iadd dL_law_206 ?_
        obtain ⟨hk, H⟩ := H
        refine J_sld dL_law_207 hk ?_
        refine J_i2l dL_law_208 ?_
        refine J_ldc2 (v := 4294967295) dL_law_209 qL_19 ?_
        refine J_land dL_law_212 ?_
        refine J_lor dL_law_213 ?_
        refine J_sload_n dL_law_214 0 rfl ?_
        refine J_iload dL_law_215 4 rfl ?_
        refine J_iconst (v := 3) dL_law_217 (by decide) ?_
        refine J_iadd dL_law_218 ?_
        obtain ⟨hk, H⟩ := H
        refine J_sld dL_law_219 hk ?_
        refine J_i2l dL_law_220 ?_
        refine J_bipush (v := 32) dL_law_221 (by decide) ?_
        refine J_lshl dL_law_223 ?_
        refine J_sload_n dL_law_224 0 rfl ?_
        refine J_iload dL_law_225 4 rfl ?_
        refine J_iconst (v := 4) dL_law_227 (by decide) ?_
        refine J_iadd dL_law_228 ?_
        obtain ⟨hk, H⟩ := H
        refine J_sld dL_law_229 hk ?_
        refine J_i2l dL_law_230 ?_
        refine J_ldc2 (v := 4294967295) dL_law_231 qL_19 ?_
        refine J_land dL_law_234 ?_
        refine J_lor dL_law_235 ?_
        refine J_sload_n dL_law_236 0 rfl ?_
        refine J_iload dL_law_237 4 rfl ?_
        refine J_iconst (v := 5) dL_law_239 (by decide) ?_
        refine J_iadd dL_law_240 ?_
        obtain ⟨hk, H⟩ := H
        refine J_sld dL_law_241 hk ?_
        refine J_i2l dL_law_242 ?_
        refine J_bipush (v := 32) dL_law_243 (by decide) ?_
        refine J_lshl dL_law_245 ?_
        refine J_sload_n dL_law_246 0 rfl ?_
        refine J_iload dL_law_247 4 rfl ?_
        refine J_bipush (v := 6) dL_law_249 (by decide) ?_
        refine J_iadd dL_law_251 ?_
        obtain ⟨hk, H⟩ := H
        refine J_sld dL_law_252 hk ?_
        refine J_i2l dL_law_253 ?_
        refine J_ldc2 (v := 4294967295) dL_law_254 qL_19 ?_
        refine J_land dL_law_257 ?_
        refine J_lor dL_law_258 ?_
        obtain ⟨⟨fs, hh⟩, H⟩ := H
        refine J_callV (As := [.long ((((Int32.toInt64 (g.2.2.2.1.2.2 (Int32.toNatClampNeg (i4 + 1)))) : Int64) <<< (Int32.toInt64 32 &&& (63 : Int64))) ||| ((Int32.toInt64 (g.2.2.2.1.2.2 (Int32.toNatClampNeg (i4 + 2)))) &&& 4294967295)), .long ((((Int32.toInt64 (g.2.2.2.1.2.2 (Int32.toNatClampNeg (i4 + 3)))) : Int64) <<< (Int32.toInt64 32 &&& (63 : Int64))) ||| ((Int32.toInt64 (g.2.2.2.1.2.2 (Int32.toNatClampNeg (i4 + 4)))) &&& 4294967295)), .long ((((Int32.toInt64 (g.2.2.2.1.2.2 (Int32.toNatClampNeg (i4 + 5)))) : Int64) <<< (Int32.toInt64 32 &&& (63 : Int64))) ||| ((Int32.toInt64 (g.2.2.2.1.2.2 (Int32.toNatClampNeg (i4 + 6)))) &&& 4294967295))]) (S := [.int v9]) (b := a2) dL_law_259 mX9_feed_ok kL_25 rfl (by decide) (Nat.le_of_ble_eq_true rfl) hh rfl rfl (Nat.le_of_ble_eq_true rfl) ⟨hk0.1, hk0.2⟩ (fun k h' hp => ?_) H (fun r h16 hp => ?_)
        · obtain ⟨_, hv, -⟩ := hp; cases hv
        obtain ⟨v17, rfl, H⟩ := hp
        show am_J l g mLaw (d + 1) (kc, ks, false) 262 [(0, .retAddr 0), (1, .ref a1), (2, .ref a2), (3, .ref a3), (4, .int i4)] [.int v17, .int v9] h16 Q
        obtain ⟨H1, H2⟩ := H
        refine J_icmp_eq (tgt := 745) dL_law_262 (by decide) (fun hc => ?_) (fun hc => ?_)
        · replace H := H1 hc
          clear H1 H2
          exact J_pick [0, 1, 2, 3, 4] rfl (rLaw_745 H)
        · replace H := H2 hc
          clear H1 H2
          refine J_iconst (v := 0) dL_law_265 (by decide) ?_
          exact J_iret dL_law_266 ⟨_, rfl, rfl⟩ ⟨hk0.1, hk0.2, fun c => by cases c⟩ H
      · replace H := H.2.1 he
        refine J_tableIn (off := 227) (tgt := 267) dL_law_40 (by rw [he]; decide) (by rw [he]; decide) (by rw [he]; decide) (by decide) ?_
        refine J_aload_n dL_law_267 1 rfl ?_
        obtain ⟨⟨fs, hh⟩, H⟩ := H
        refine J_callV (As := []) (S := []) (b := a1) dL_law_268 mX8_weave_ok kL_26 rfl (by decide) (Nat.le_of_ble_eq_true rfl) hh rfl rfl (Nat.le_of_ble_eq_true rfl) ⟨hk0.1, hk0.2⟩ (fun k h' hp => ?_) H (fun r h18 hp => ?_)
        · obtain ⟨_, hv, -⟩ := hp; cases hv
        obtain ⟨v19, rfl, H⟩ := hp
        show am_J l g mLaw (d + 1) (kc, ks, false) 271 [(0, .retAddr 0), (1, .ref a1), (2, .ref a2), (3, .ref a3), (4, .int i4)] [.int v19] h18 Q
        refine J_aload_n dL_law_271 2 rfl ?_
        obtain ⟨⟨fs, hh⟩, H⟩ := H
        refine J_callV (As := []) (S := [.int v19]) (b := a2) dL_law_272 mX9_weave_ok kL_30 rfl (by decide) (Nat.le_of_ble_eq_true rfl) hh rfl rfl (Nat.le_of_ble_eq_true rfl) ⟨hk0.1, hk0.2⟩ (fun k h' hp => ?_) H (fun r h20 hp => ?_)
        · obtain ⟨_, hv, -⟩ := hp; cases hv
        obtain ⟨v21, rfl, H⟩ := hp
        show am_J l g mLaw (d + 1) (kc, ks, false) 275 [(0, .retAddr 0), (1, .ref a1), (2, .ref a2), (3, .ref a3), (4, .int i4)] [.int v21, .int v19] h20 Q
        obtain ⟨H1, H2⟩ := H
        refine J_icmp_eq (tgt := 745) dL_law_275 (by decide) (fun hc => ?_) (fun hc => ?_)
        · replace H := H1 hc
          clear H1 H2
          exact J_pick [0, 1, 2, 3, 4] rfl (rLaw_745 H)
        · replace H := H2 hc
          clear H1 H2
          refine J_iconst (v := 0) dL_law_278 (by decide) ?_
          exact J_iret dL_law_279 ⟨_, rfl, rfl⟩ ⟨hk0.1, hk0.2, fun c => by cases c⟩ H
      · replace H := H.2.2.1 he
        refine J_tableIn (off := 240) (tgt := 280) dL_law_40 (by rw [he]; decide) (by rw [he]; decide) (by rw [he]; decide) (by decide) ?_
        refine J_aload_n dL_law_280 1 rfl ?_
        refine J_sload_n dL_law_281 0 rfl ?_
        refine J_iload dL_law_282 4 rfl ?_
        refine J_iconst (v := 1) dL_law_284 (by decide) ?_
        refine J_iadd dL_law_285 ?_
        obtain ⟨hk, H⟩ := H
        refine J_sld dL_law_286 hk ?_
        refine J_sload_n dL_law_287 0 rfl ?_
        refine J_iload dL_law_288 4 rfl ?_
        refine J_iconst (v := 2) dL_law_290 (by decide) ?_
        refine J_iadd dL_law_291 ?_
        obtain ⟨hk, H⟩ := H
        refine J_sld dL_law_292 hk ?_
        obtain ⟨⟨fs, hh⟩, H⟩ := H
        refine J_callV (As := [.int (g.2.2.2.1.2.2 (Int32.toNatClampNeg (i4 + 1))), .int (g.2.2.2.1.2.2 (Int32.toNatClampNeg (i4 + 2)))]) (S := []) (b := a1) dL_law_293 mX8_lay_ok kL_31 rfl (by decide) (Nat.le_of_ble_eq_true rfl) hh rfl rfl (Nat.le_of_ble_eq_true rfl) ⟨hk0.1, hk0.2⟩ (fun k h' hp => ?_) H (fun r h24 hp => ?_)
        · obtain ⟨_, hv, -⟩ := hp; cases hv
        obtain ⟨v25, rfl, H⟩ := hp
        show am_J l g mLaw (d + 1) (kc, ks, false) 296 [(0, .retAddr 0), (1, .ref a1), (2, .ref a2), (3, .ref a3), (4, .int i4)] [.int v25] h24 Q
        refine J_aload_n dL_law_296 2 rfl ?_
        refine J_sload_n dL_law_297 0 rfl ?_
        refine J_iload dL_law_298 4 rfl ?_
        refine J_iconst (v := 1) dL_law_300 (by decide) ?_
        refine J_iadd dL_law_301 ?_
        obtain ⟨hk, H⟩ := H
        refine J_sld dL_law_302 hk ?_
        refine J_sload_n dL_law_303 0 rfl ?_
        refine J_iload dL_law_304 4 rfl ?_
        refine J_iconst (v := 2) dL_law_306 (by decide) ?_
        refine J_iadd dL_law_307 ?_
        obtain ⟨hk, H⟩ := H
        refine J_sld dL_law_308 hk ?_
        obtain ⟨⟨fs, hh⟩, H⟩ := H
        refine J_callV (As := [.int (g.2.2.2.1.2.2 (Int32.toNatClampNeg (i4 + 1))), .int (g.2.2.2.1.2.2 (Int32.toNatClampNeg (i4 + 2)))]) (S := [.int v25]) (b := a2) dL_law_309 mX9_lay__ok kL_34 rfl (by decide) (Nat.le_of_ble_eq_true rfl) hh rfl rfl (Nat.le_of_ble_eq_true rfl) ⟨hk0.1, hk0.2⟩ (fun k h' hp => ?_) H (fun r h28 hp => ?_)
        · obtain ⟨_, hv, -⟩ := hp; cases hv
        obtain ⟨v29, rfl, H⟩ := hp
        show am_J l g mLaw (d + 1) (kc, ks, false) 312 [(0, .retAddr 0), (1, .ref a1), (2, .ref a2), (3, .ref a3), (4, .int i4)] [.int v29, .int v25] h28 Q
        obtain ⟨H1, H2⟩ := H
        refine J_icmp_eq (tgt := 745) dL_law_312 (by decide) (fun hc => ?_) (fun hc => ?_)
        · replace H := H1 hc
          clear H1 H2
          exact J_pick [0, 1, 2, 3, 4] rfl (rLaw_745 H)
        · replace H := H2 hc
          clear H1 H2
          refine J_iconst (v := 0) dL_law_315 (by decide) ?_
          exact J_iret dL_law_316 ⟨_, rfl, rfl⟩ ⟨hk0.1, hk0.2, fun c => by cases c⟩ H
      · replace H := H.2.2.2.1 he
        refine J_tableIn (off := 277) (tgt := 317) dL_law_40 (by rw [he]; decide) (by rw [he]; decide) (by rw [he]; decide) (by decide) ?_
        refine J_aload_n dL_law_317 1 rfl ?_
        refine J_sload_n dL_law_318 0 rfl ?_
        refine J_iload dL_law_319 4 rfl ?_
        refine J_iconst (v := 1) dL_law_321 (by decide) ?_
        refine J_iadd dL_law_322 ?_
        obtain ⟨hk, H⟩ := H
        refine J_sld dL_law_323 hk ?_
        refine J_sload_n dL_law_324 0 rfl ?_
        refine J_iload dL_law_325 4 rfl ?_
        refine J_iconst (v := 2) dL_law_327 (by decide) ?_
        refine J_iadd dL_law_328 ?_
        obtain ⟨hk, H⟩ := H
        refine J_sld dL_law_329 hk ?_
        refine J_sload_n dL_law_330 0 rfl ?_
        refine J_iload dL_law_331 4 rfl ?_
        refine J_iconst (v := 3) dL_law_333 (by decide) ?_
        refine J_iadd dL_law_334 ?_
        obtain ⟨hk, H⟩ := H
        refine J_sld dL_law_335 hk ?_
        obtain ⟨⟨fs, hh⟩, H⟩ := H
        refine J_callV (As := [.int (g.2.2.2.1.2.2 (Int32.toNatClampNeg (i4 + 1))), .int (g.2.2.2.1.2.2 (Int32.toNatClampNeg (i4 + 2))), .int (g.2.2.2.1.2.2 (Int32.toNatClampNeg (i4 + 3)))]) (S := []) (b := a1) dL_law_336 mX8_at_ok kL_35 rfl (by decide) (Nat.le_of_ble_eq_true rfl) hh rfl rfl (Nat.le_of_ble_eq_true rfl) ⟨hk0.1, hk0.2⟩ (fun k h' hp => ?_) H (fun r h33 hp => ?_)
        · obtain ⟨_, hv, -⟩ := hp; cases hv
        obtain ⟨v34, rfl, H⟩ := hp
        show am_J l g mLaw (d + 1) (kc, ks, false) 339 [(0, .retAddr 0), (1, .ref a1), (2, .ref a2), (3, .ref a3), (4, .int i4)] [.int v34] h33 Q
        refine J_aload_n dL_law_339 2 rfl ?_
        refine J_sload_n dL_law_340 0 rfl ?_
        refine J_iload dL_law_341 4 rfl ?_
        refine J_iconst (v := 1) dL_law_343 (by decide) ?_
        refine J_iadd dL_law_344 ?_
        obtain ⟨hk, H⟩ := H
        refine J_sld dL_law_345 hk ?_
        refine J_sload_n dL_law_346 0 rfl ?_
        refine J_iload dL_law_347 4 rfl ?_
        refine J_iconst (v := 2) dL_law_349 (by decide) ?_
        refine J_iadd dL_law_350 ?_
        obtain ⟨hk, H⟩ := H
        refine J_sld dL_law_351 hk ?_
        refine J_sload_n dL_law_352 0 rfl ?_
        refine J_iload dL_law_353 4 rfl ?_
        refine J_iconst (v := 3) dL_law_355 (by decide) ?_
        refine J_iadd dL_law_356 ?_
        obtain ⟨hk, H⟩ := H
        refine J_sld dL_law_357 hk ?_
        obtain ⟨⟨fs, hh⟩, H⟩ := H
        refine J_callV (As := [.int (g.2.2.2.1.2.2 (Int32.toNatClampNeg (i4 + 1))), .int (g.2.2.2.1.2.2 (Int32.toNatClampNeg (i4 + 2))), .int (g.2.2.2.1.2.2 (Int32.toNatClampNeg (i4 + 3)))]) (S := [.int v34]) (b := a2) dL_law_358 mX9_at_ok kL_39 rfl (by decide) (Nat.le_of_ble_eq_true rfl) hh rfl rfl (Nat.le_of_ble_eq_true rfl) ⟨hk0.1, hk0.2⟩ (fun k h' hp => ?_) H (fun r h38 hp => ?_)
        · obtain ⟨_, hv, -⟩ := hp; cases hv
        obtain ⟨v39, rfl, H⟩ := hp
        show am_J l g mLaw (d + 1) (kc, ks, false) 361 [(0, .retAddr 0), (1, .ref a1), (2, .ref a2), (3, .ref a3), (4, .int i4)] [.int v39, .int v34] h38 Q
        obtain ⟨H1, H2⟩ := H
        refine J_icmp_eq (tgt := 745) dL_law_361 (by decide) (fun hc => ?_) (fun hc => ?_)
        · replace H := H1 hc
          clear H1 H2
          exact J_pick [0, 1, 2, 3, 4] rfl (rLaw_745 H)
        · replace H := H2 hc
          clear H1 H2
          refine J_iconst (v := 0) dL_law_364 (by decide) ?_
          exact J_iret dL_law_365 ⟨_, rfl, rfl⟩ ⟨hk0.1, hk0.2, fun c => by cases c⟩ H
      · replace H := H.2.2.2.2.1 he
        refine J_tableIn (off := 326) (tgt := 366) dL_law_40 (by rw [he]; decide) (by rw [he]; decide) (by rw [he]; decide) (by decide) ?_
        refine J_aload_n dL_law_366 1 rfl ?_
        obtain ⟨⟨fs, hh⟩, H⟩ := H
        refine J_callV (As := []) (S := []) (b := a1) dL_law_367 mX8_add_ok kL_40 rfl (by decide) (Nat.le_of_ble_eq_true rfl) hh rfl rfl (Nat.le_of_ble_eq_true rfl) ⟨hk0.1, hk0.2⟩ (fun k h' hp => ?_) H (fun r h40 hp => ?_)
        · obtain ⟨_, hv, -⟩ := hp; cases hv
        obtain ⟨v41, rfl, H⟩ := hp
        show am_J l g mLaw (d + 1) (kc, ks, false) 370 [(0, .retAddr 0), (1, .ref a1), (2, .ref a2), (3, .ref a3), (4, .int i4)] [.int v41] h40 Q
        refine J_aload_n dL_law_370 2 rfl ?_
        obtain ⟨⟨fs, hh⟩, H⟩ := H
        refine J_callV (As := []) (S := [.int v41]) (b := a2) dL_law_371 mX9_add_ok kL_43 rfl (by decide) (Nat.le_of_ble_eq_true rfl) hh rfl rfl (Nat.le_of_ble_eq_true rfl) ⟨hk0.1, hk0.2⟩ (fun k h' hp => ?_) H (fun r h42 hp => ?_)
        · obtain ⟨_, hv, -⟩ := hp; cases hv
        obtain ⟨v43, rfl, H⟩ := hp
        show am_J l g mLaw (d + 1) (kc, ks, false) 374 [(0, .retAddr 0), (1, .ref a1), (2, .ref a2), (3, .ref a3), (4, .int i4)] [.int v43, .int v41] h42 Q
        obtain ⟨H1, H2⟩ := H
        refine J_icmp_eq (tgt := 745) dL_law_374 (by decide) (fun hc => ?_) (fun hc => ?_)
        · replace H := H1 hc
          clear H1 H2
          exact J_pick [0, 1, 2, 3, 4] rfl (rLaw_745 H)
        · replace H := H2 hc
          clear H1 H2
          refine J_iconst (v := 0) dL_law_377 (by decide) ?_
          exact J_iret dL_law_378 ⟨_, rfl, rfl⟩ ⟨hk0.1, hk0.2, fun c => by cases c⟩ H
      · replace H := H.2.2.2.2.2.1 he
        refine J_tableIn (off := 339) (tgt := 379) dL_law_40 (by rw [he]; decide) (by rw [he]; decide) (by rw [he]; decide) (by decide) ?_
        refine J_aload_n dL_law_379 1 rfl ?_
        refine J_sload_n dL_law_380 0 rfl ?_
        refine J_iload dL_law_381 4 rfl ?_
        refine J_iconst (v := 1) dL_law_383 (by decide) ?_
        refine J_iadd dL_law_384 ?_
        obtain ⟨hk, H⟩ := H
        refine J_sld dL_law_385 hk ?_
        obtain ⟨⟨fs, hh⟩, H⟩ := H
        refine J_callV (As := [.int (g.2.2.2.1.2.2 (Int32.toNatClampNeg (i4 + 1)))]) (S := []) (b := a1) dL_law_386 mX8_take_ok kL_44 rfl (by decide) (Nat.le_of_ble_eq_true rfl) hh rfl rfl (Nat.le_of_ble_eq_true rfl) ⟨hk0.1, hk0.2⟩ (fun k h' hp => ?_) H (fun r h45 hp => ?_)
        · obtain ⟨_, hv, -⟩ := hp; cases hv
        obtain ⟨v46, rfl, H⟩ := hp
        show am_J l g mLaw (d + 1) (kc, ks, false) 389 [(0, .retAddr 0), (1, .ref a1), (2, .ref a2), (3, .ref a3), (4, .int i4)] [.int v46] h45 Q
        refine J_aload_n dL_law_389 2 rfl ?_
        refine J_sload_n dL_law_390 0 rfl ?_
        refine J_iload dL_law_391 4 rfl ?_
        refine J_iconst (v := 1) dL_law_393 (by decide) ?_
        refine J_iadd dL_law_394 ?_
        obtain ⟨hk, H⟩ := H
        refine J_sld dL_law_395 hk ?_
        obtain ⟨⟨fs, hh⟩, H⟩ := H
        refine J_callV (As := [.int (g.2.2.2.1.2.2 (Int32.toNatClampNeg (i4 + 1)))]) (S := [.int v46]) (b := a2) dL_law_396 mX9_take_ok kL_48 rfl (by decide) (Nat.le_of_ble_eq_true rfl) hh rfl rfl (Nat.le_of_ble_eq_true rfl) ⟨hk0.1, hk0.2⟩ (fun k h' hp => ?_) H (fun r h48 hp => ?_)
        · obtain ⟨_, hv, -⟩ := hp; cases hv
        obtain ⟨v49, rfl, H⟩ := hp
        show am_J l g mLaw (d + 1) (kc, ks, false) 399 [(0, .retAddr 0), (1, .ref a1), (2, .ref a2), (3, .ref a3), (4, .int i4)] [.int v49, .int v46] h48 Q
        obtain ⟨H1, H2⟩ := H
        refine J_icmp_eq (tgt := 745) dL_law_399 (by decide) (fun hc => ?_) (fun hc => ?_)
        · replace H := H1 hc
          clear H1 H2
          exact J_pick [0, 1, 2, 3, 4] rfl (rLaw_745 H)
        · replace H := H2 hc
          clear H1 H2
          refine J_iconst (v := 0) dL_law_402 (by decide) ?_
          exact J_iret dL_law_403 ⟨_, rfl, rfl⟩ ⟨hk0.1, hk0.2, fun c => by cases c⟩ H
      · replace H := H.2.2.2.2.2.2.1 he
        refine J_tableIn (off := 364) (tgt := 404) dL_law_40 (by rw [he]; decide) (by rw [he]; decide) (by rw [he]; decide) (by decide) ?_
        refine J_aload_n dL_law_404 1 rfl ?_
        refine J_sload_n dL_law_405 0 rfl ?_
        refine J_iload dL_law_406 4 rfl ?_
        refine J_iconst (v := 1) dL_law_408 (by decide) ?_
        refine J_iadd dL_law_409 ?_
        obtain ⟨hk, H⟩ := H
        refine J_sld dL_law_410 hk ?_
        refine J_sload_n dL_law_411 0 rfl ?_
        refine J_iload dL_law_412 4 rfl ?_
        refine J_iconst (v := 2) dL_law_414 (by decide) ?_
        refine J_iadd dL_law_415 ?_
        obtain ⟨hk, H⟩ := H
        refine J_sld dL_law_416 hk ?_
        obtain ⟨⟨fs, hh⟩, H⟩ := H
        refine J_callV (As := [.int (g.2.2.2.1.2.2 (Int32.toNatClampNeg (i4 + 1))), .int (g.2.2.2.1.2.2 (Int32.toNatClampNeg (i4 + 2)))]) (S := []) (b := a1) dL_law_417 mX8_link_ok kL_49 rfl (by decide) (Nat.le_of_ble_eq_true rfl) hh rfl rfl (Nat.le_of_ble_eq_true rfl) ⟨hk0.1, hk0.2⟩ (fun k h' hp => ?_) H (fun r h52 hp => ?_)
        · obtain ⟨_, hv, -⟩ := hp; cases hv
        obtain ⟨v53, rfl, H⟩ := hp
        show am_J l g mLaw (d + 1) (kc, ks, false) 420 [(0, .retAddr 0), (1, .ref a1), (2, .ref a2), (3, .ref a3), (4, .int i4)] [.int v53] h52 Q
        refine J_aload_n dL_law_420 2 rfl ?_
        refine J_sload_n dL_law_421 0 rfl ?_
        refine J_iload dL_law_422 4 rfl ?_
        refine J_iconst (v := 1) dL_law_424 (by decide) ?_
        refine J_iadd dL_law_425 ?_
        obtain ⟨hk, H⟩ := H
        refine J_sld dL_law_426 hk ?_
        refine J_sload_n dL_law_427 0 rfl ?_
        refine J_iload dL_law_428 4 rfl ?_
        refine J_iconst (v := 2) dL_law_430 (by decide) ?_
        refine J_iadd dL_law_431 ?_
        obtain ⟨hk, H⟩ := H
        refine J_sld dL_law_432 hk ?_
        obtain ⟨⟨fs, hh⟩, H⟩ := H
        refine J_callV (As := [.int (g.2.2.2.1.2.2 (Int32.toNatClampNeg (i4 + 1))), .int (g.2.2.2.1.2.2 (Int32.toNatClampNeg (i4 + 2)))]) (S := [.int v53]) (b := a2) dL_law_433 mX9_link_ok kL_53 rfl (by decide) (Nat.le_of_ble_eq_true rfl) hh rfl rfl (Nat.le_of_ble_eq_true rfl) ⟨hk0.1, hk0.2⟩ (fun k h' hp => ?_) H (fun r h56 hp => ?_)
        · obtain ⟨_, hv, -⟩ := hp; cases hv
        obtain ⟨v57, rfl, H⟩ := hp
        show am_J l g mLaw (d + 1) (kc, ks, false) 436 [(0, .retAddr 0), (1, .ref a1), (2, .ref a2), (3, .ref a3), (4, .int i4)] [.int v57, .int v53] h56 Q
        obtain ⟨H1, H2⟩ := H
        refine J_icmp_eq (tgt := 745) dL_law_436 (by decide) (fun hc => ?_) (fun hc => ?_)
        · replace H := H1 hc
          clear H1 H2
          exact J_pick [0, 1, 2, 3, 4] rfl (rLaw_745 H)
        · replace H := H2 hc
          clear H1 H2
          refine J_iconst (v := 0) dL_law_439 (by decide) ?_
          exact J_iret dL_law_440 ⟨_, rfl, rfl⟩ ⟨hk0.1, hk0.2, fun c => by cases c⟩ H
      · replace H := H.2.2.2.2.2.2.2.1 he
        refine J_tableIn (off := 401) (tgt := 441) dL_law_40 (by rw [he]; decide) (by rw [he]; decide) (by rw [he]; decide) (by decide) ?_
        refine J_aload_n dL_law_441 1 rfl ?_
        refine J_sload_n dL_law_442 0 rfl ?_
        refine J_iload dL_law_443 4 rfl ?_
        refine J_iconst (v := 1) dL_law_445 (by decide) ?_
        refine J_iadd dL_law_446 ?_
        obtain ⟨hk, H⟩ := H
        refine J_sld dL_law_447 hk ?_
        refine J_sload_n dL_law_448 0 rfl ?_
        refine J_iload dL_law_449 4 rfl ?_
        refine J_iconst (v := 2) dL_law_451 (by decide) ?_
        refine J_iadd dL_law_452 ?_
        obtain ⟨hk, H⟩ := H
        refine J_sld dL_law_453 hk ?_
        obtain ⟨⟨fs, hh⟩, H⟩ := H
        refine J_callV (As := [.int (g.2.2.2.1.2.2 (Int32.toNatClampNeg (i4 + 1))), .int (g.2.2.2.1.2.2 (Int32.toNatClampNeg (i4 + 2)))]) (S := []) (b := a1) dL_law_454 mX8_unlink_ok kL_54 rfl (by decide) (Nat.le_of_ble_eq_true rfl) hh rfl rfl (Nat.le_of_ble_eq_true rfl) ⟨hk0.1, hk0.2⟩ (fun k h' hp => ?_) H (fun r h60 hp => ?_)
        · obtain ⟨_, hv, -⟩ := hp; cases hv
        obtain ⟨v61, rfl, H⟩ := hp
        show am_J l g mLaw (d + 1) (kc, ks, false) 457 [(0, .retAddr 0), (1, .ref a1), (2, .ref a2), (3, .ref a3), (4, .int i4)] [.int v61] h60 Q
        refine J_aload_n dL_law_457 2 rfl ?_
        refine J_sload_n dL_law_458 0 rfl ?_
        refine J_iload dL_law_459 4 rfl ?_
        refine J_iconst (v := 1) dL_law_461 (by decide) ?_
        refine J_iadd dL_law_462 ?_
        obtain ⟨hk, H⟩ := H
        refine J_sld dL_law_463 hk ?_
        refine J_sload_n dL_law_464 0 rfl ?_
        refine J_iload dL_law_465 4 rfl ?_
        refine J_iconst (v := 2) dL_law_467 (by decide) ?_
        refine J_iadd dL_law_468 ?_
        obtain ⟨hk, H⟩ := H
        refine J_sld dL_law_469 hk ?_
        obtain ⟨⟨fs, hh⟩, H⟩ := H
        refine J_callV (As := [.int (g.2.2.2.1.2.2 (Int32.toNatClampNeg (i4 + 1))), .int (g.2.2.2.1.2.2 (Int32.toNatClampNeg (i4 + 2)))]) (S := [.int v61]) (b := a2) dL_law_470 mX9_unlink_ok kL_57 rfl (by decide) (Nat.le_of_ble_eq_true rfl) hh rfl rfl (Nat.le_of_ble_eq_true rfl) ⟨hk0.1, hk0.2⟩ (fun k h' hp => ?_) H (fun r h64 hp => ?_)
        · obtain ⟨_, hv, -⟩ := hp; cases hv
        obtain ⟨v65, rfl, H⟩ := hp
        show am_J l g mLaw (d + 1) (kc, ks, false) 473 [(0, .retAddr 0), (1, .ref a1), (2, .ref a2), (3, .ref a3), (4, .int i4)] [.int v65, .int v61] h64 Q
        obtain ⟨H1, H2⟩ := H
        refine J_icmp_eq (tgt := 745) dL_law_473 (by decide) (fun hc => ?_) (fun hc => ?_)
        · replace H := H1 hc
          clear H1 H2
          exact J_pick [0, 1, 2, 3, 4] rfl (rLaw_745 H)
        · replace H := H2 hc
          clear H1 H2
          refine J_iconst (v := 0) dL_law_476 (by decide) ?_
          exact J_iret dL_law_477 ⟨_, rfl, rfl⟩ ⟨hk0.1, hk0.2, fun c => by cases c⟩ H
      · replace H := H.2.2.2.2.2.2.2.2.1 he
        refine J_tableIn (off := 438) (tgt := 478) dL_law_40 (by rw [he]; decide) (by rw [he]; decide) (by rw [he]; decide) (by decide) ?_
        refine J_aload_n dL_law_478 1 rfl ?_
        obtain ⟨⟨fs, hh⟩, H⟩ := H
        refine J_callV (As := []) (S := []) (b := a1) dL_law_479 mX8_mend_ok kL_58 rfl (by decide) (Nat.le_of_ble_eq_true rfl) hh rfl rfl (Nat.le_of_ble_eq_true rfl) ⟨hk0.1, hk0.2⟩ (fun k h' hp => ?_) H (fun r h66 hp => ?_)
        · obtain ⟨_, hv, -⟩ := hp; cases hv
        obtain ⟨v67, rfl, H⟩ := hp
        show am_J l g mLaw (d + 1) (kc, ks, false) 482 [(0, .retAddr 0), (1, .ref a1), (2, .ref a2), (3, .ref a3), (4, .int i4)] [.int v67] h66 Q
        refine J_aload_n dL_law_482 2 rfl ?_
        obtain ⟨⟨fs, hh⟩, H⟩ := H
        refine J_callV (As := []) (S := [.int v67]) (b := a2) dL_law_483 mX9_mend_ok kL_61 rfl (by decide) (Nat.le_of_ble_eq_true rfl) hh rfl rfl (Nat.le_of_ble_eq_true rfl) ⟨hk0.1, hk0.2⟩ (fun k h' hp => ?_) H (fun r h68 hp => ?_)
        · obtain ⟨_, hv, -⟩ := hp; cases hv
        obtain ⟨v69, rfl, H⟩ := hp
        show am_J l g mLaw (d + 1) (kc, ks, false) 486 [(0, .retAddr 0), (1, .ref a1), (2, .ref a2), (3, .ref a3), (4, .int i4)] [.int v69, .int v67] h68 Q
        obtain ⟨H1, H2⟩ := H
        refine J_icmp_eq (tgt := 745) dL_law_486 (by decide) (fun hc => ?_) (fun hc => ?_)
        · replace H := H1 hc
          clear H1 H2
          exact J_pick [0, 1, 2, 3, 4] rfl (rLaw_745 H)
        · replace H := H2 hc
          clear H1 H2
          refine J_iconst (v := 0) dL_law_489 (by decide) ?_
          exact J_iret dL_law_490 ⟨_, rfl, rfl⟩ ⟨hk0.1, hk0.2, fun c => by cases c⟩ H
      · replace H := H.2.2.2.2.2.2.2.2.2.1 he
        refine J_tableIn (off := 451) (tgt := 491) dL_law_40 (by rw [he]; decide) (by rw [he]; decide) (by rw [he]; decide) (by decide) ?_
        refine J_aload_n dL_law_491 1 rfl ?_
        refine J_sload_n dL_law_492 0 rfl ?_
        refine J_iload dL_law_493 4 rfl ?_
        refine J_iconst (v := 1) dL_law_495 (by decide) ?_
        refine J_iadd dL_law_496 ?_
        obtain ⟨hk, H⟩ := H
        refine J_sld dL_law_497 hk ?_
        refine J_sload_n dL_law_498 0 rfl ?_
        refine J_iload dL_law_499 4 rfl ?_
        refine J_iconst (v := 2) dL_law_501 (by decide) ?_
        refine J_iadd dL_law_502 ?_
        obtain ⟨hk, H⟩ := H
        refine J_sld dL_law_503 hk ?_
        refine J_aload_n dL_law_504 3 rfl ?_
        have ha1 := H.1; have ha3 := H.2.1
        subst ha1 ha3
        refine J_lk dL_law_505 hk1 H (fun v73 h72 H => ?_)
        show am_J l g mLaw (d + 1) (kc + 1, ks + 6, false) 508 [(0, .retAddr 0), (1, .ref 0), (2, .ref a2), (3, .ref 73), (4, .int i4)] [.int v73] h72 Q
        refine J_istore (L' := [(5, .int v73), (0, .retAddr 0), (1, .ref 0), (2, .ref a2), (3, .ref 73), (4, .int i4)]) dL_law_508 (by decide) rfl ?_
        refine J_aload_n dL_law_510 3 rfl ?_
        refine J_sload_n dL_law_511 1 rfl ?_
        refine J_iload dL_law_512 5 rfl ?_
        refine J_iconst (v := 1) dL_law_514 (by decide) ?_
        refine J_iadd dL_law_515 ?_
        obtain ⟨hk, H⟩ := H
        refine J_sld dL_law_516 hk ?_
        refine J_sload_n dL_law_517 1 rfl ?_
        refine J_iload dL_law_518 5 rfl ?_
        refine J_iconst (v := 2) dL_law_520 (by decide) ?_
        refine J_iadd dL_law_521 ?_
        obtain ⟨hk, H⟩ := H
        refine J_sld dL_law_522 hk ?_
        obtain ⟨⟨fs, hh⟩, H⟩ := H
        refine J_callV (As := [.int (g.2.2.2.1.2.2 (Int32.toNatClampNeg (i4 + 1))), .int (g.2.2.2.1.2.2 (Int32.toNatClampNeg (i4 + 2)))]) (S := []) (b := a2) dL_law_523 mX9_look_ok kL_67 rfl (by decide) (Nat.le_of_ble_eq_true rfl) hh rfl rfl (Nat.le_of_ble_eq_true rfl) ⟨hk1.1, hk1.2⟩ (fun k h' hp => ?_) H (fun r h76 hp => ?_)
        · obtain ⟨_, hv, -⟩ := hp; cases hv
        obtain ⟨v77, rfl, H⟩ := hp
        show am_J l g mLaw (d + 1) (kc + 1, ks + 6, false) 526 [(5, .int v73), (0, .retAddr 0), (1, .ref 0), (2, .ref a2), (3, .ref 73), (4, .int i4)] [.int v77] h76 Q
        refine J_istore (L' := [(6, .int v77), (5, .int v73), (0, .retAddr 0), (1, .ref 0), (2, .ref a2), (3, .ref 73), (4, .int i4)]) dL_law_526 (by decide) rfl ?_
        refine J_aload_n dL_law_528 4 rfl ?_
        obtain ⟨⟨fs, hh⟩, H⟩ := H
        refine J_callV (As := []) (S := []) (b := a2) dL_law_529 mX9_thrown_ok kL_68 rfl (by decide) (Nat.le_of_ble_eq_true rfl) hh rfl rfl (Nat.le_of_ble_eq_true rfl) ⟨hk1.1, hk1.2⟩ (fun k h' hp => ?_) H (fun r h78 hp => ?_)
        · obtain ⟨_, hv, -⟩ := hp; cases hv
        obtain ⟨v79, rfl, H⟩ := hp
        show am_J l g mLaw (d + 1) (kc + 1, ks + 6, false) 532 [(6, .int v77), (5, .int v73), (0, .retAddr 0), (1, .ref 0), (2, .ref a2), (3, .ref 73), (4, .int i4)] [.int v79] h78 Q
        refine J_iload dL_law_532 1 rfl ?_
        obtain ⟨H1, H2⟩ := H
        refine J_icmp_eq (tgt := 539) dL_law_534 (by decide) (fun hc => ?_) (fun hc => ?_)
        · replace H := H1 hc
          clear H1 H2
          refine J_iload dL_law_539 1 rfl ?_
          obtain ⟨H1, H2⟩ := H
          refine J_if_ne (tgt := 556) dL_law_541 (by decide) (fun hc => ?_) (fun hc => ?_)
          · replace H := H1 hc
            clear H1 H2
            exact J_pick [2, 3, 4, 5, 6] rfl (rLaw_556 H)
          · replace H := H2 hc
            clear H1 H2
            refine J_aload_n dL_law_544 5 rfl ?_
            refine J_iconst (v := 0) dL_law_545 (by decide) ?_
            obtain ⟨nn, ff, hh, hk, H⟩ := H
            refine J_lald dL_law_546 hh hk ?_
            generalize ff (Int32.toNatClampNeg 0) = v80 at H ⊢
            clear hh hk ff
            refine J_iload dL_law_547 0 rfl ?_
            refine J_i2l dL_law_549 ?_
            refine J_lcmp dL_law_550 ?_
            obtain ⟨H1, H2⟩ := H
            refine J_if_eq (tgt := 556) dL_law_551 (by decide) (fun hc => ?_) (fun hc => ?_)
            · replace H := H1 hc
              clear H1 H2
              exact J_pick [2, 3, 4, 5, 6] rfl (rLaw_556 H)
            · replace H := H2 hc
              clear H1 H2
              refine J_iconst (v := 0) dL_law_554 (by decide) ?_
              exact J_iret dL_law_555 ⟨_, rfl, rfl⟩ ⟨hk1.1, hk1.2, fun c => by cases c⟩ H
        · replace H := H2 hc
          clear H1 H2
          refine J_iconst (v := 0) dL_law_537 (by decide) ?_
          exact J_iret dL_law_538 ⟨_, rfl, rfl⟩ ⟨hk1.1, hk1.2, fun c => by cases c⟩ H
      · replace H := H.2.2.2.2.2.2.2.2.2.2.1 he
        refine J_tableIn (off := 519) (tgt := 559) dL_law_40 (by rw [he]; decide) (by rw [he]; decide) (by rw [he]; decide) (by decide) ?_
        refine J_aload_n dL_law_559 1 rfl ?_
        refine J_sload_n dL_law_560 0 rfl ?_
        refine J_iload dL_law_561 4 rfl ?_
        refine J_iconst (v := 1) dL_law_563 (by decide) ?_
        refine J_iadd dL_law_564 ?_
        obtain ⟨hk, H⟩ := H
        refine J_sld dL_law_565 hk ?_
        refine J_sload_n dL_law_566 0 rfl ?_
        refine J_iload dL_law_567 4 rfl ?_
        refine J_iconst (v := 2) dL_law_569 (by decide) ?_
        refine J_iadd dL_law_570 ?_
        obtain ⟨hk, H⟩ := H
        refine J_sld dL_law_571 hk ?_
        obtain ⟨⟨fs, hh⟩, H⟩ := H
        refine J_callV (As := [.int (g.2.2.2.1.2.2 (Int32.toNatClampNeg (i4 + 1))), .int (g.2.2.2.1.2.2 (Int32.toNatClampNeg (i4 + 2)))]) (S := []) (b := a1) dL_law_572 mX8_over_ok kL_71 rfl (by decide) (Nat.le_of_ble_eq_true rfl) hh rfl rfl (Nat.le_of_ble_eq_true rfl) ⟨hk0.1, hk0.2⟩ (fun k h' hp => ?_) H (fun r h83 hp => ?_)
        · obtain ⟨_, hv, -⟩ := hp; cases hv
        obtain ⟨v84, rfl, H⟩ := hp
        show am_J l g mLaw (d + 1) (kc, ks, false) 575 [(0, .retAddr 0), (1, .ref a1), (2, .ref a2), (3, .ref a3), (4, .int i4)] [.int v84] h83 Q
        refine J_aload_n dL_law_575 2 rfl ?_
        refine J_sload_n dL_law_576 0 rfl ?_
        refine J_iload dL_law_577 4 rfl ?_
        refine J_iconst (v := 1) dL_law_579 (by decide) ?_
        refine J_iadd dL_law_580 ?_
        obtain ⟨hk, H⟩ := H
        refine J_sld dL_law_581 hk ?_
        refine J_sload_n dL_law_582 0 rfl ?_
        refine J_iload dL_law_583 4 rfl ?_
        refine J_iconst (v := 2) dL_law_585 (by decide) ?_
        refine J_iadd dL_law_586 ?_
        obtain ⟨hk, H⟩ := H
        refine J_sld dL_law_587 hk ?_
        obtain ⟨⟨fs, hh⟩, H⟩ := H
        refine J_callV (As := [.int (g.2.2.2.1.2.2 (Int32.toNatClampNeg (i4 + 1))), .int (g.2.2.2.1.2.2 (Int32.toNatClampNeg (i4 + 2)))]) (S := [.int v84]) (b := a2) dL_law_588 mX9_over_ok kL_74 rfl (by decide) (Nat.le_of_ble_eq_true rfl) hh rfl rfl (Nat.le_of_ble_eq_true rfl) ⟨hk0.1, hk0.2⟩ (fun k h' hp => ?_) H (fun r h87 hp => ?_)
        · obtain ⟨_, hv, -⟩ := hp; cases hv
        obtain ⟨v88, rfl, H⟩ := hp
        show am_J l g mLaw (d + 1) (kc, ks, false) 591 [(0, .retAddr 0), (1, .ref a1), (2, .ref a2), (3, .ref a3), (4, .int i4)] [.int v88, .int v84] h87 Q
        obtain ⟨H1, H2⟩ := H
        refine J_icmp_eq (tgt := 745) dL_law_591 (by decide) (fun hc => ?_) (fun hc => ?_)
        · replace H := H1 hc
          clear H1 H2
          exact J_pick [0, 1, 2, 3, 4] rfl (rLaw_745 H)
        · replace H := H2 hc
          clear H1 H2
          refine J_iconst (v := 0) dL_law_594 (by decide) ?_
          exact J_iret dL_law_595 ⟨_, rfl, rfl⟩ ⟨hk0.1, hk0.2, fun c => by cases c⟩ H
      · replace H := H.2.2.2.2.2.2.2.2.2.2.2.1 he
        refine J_tableIn (off := 556) (tgt := 596) dL_law_40 (by rw [he]; decide) (by rw [he]; decide) (by rw [he]; decide) (by decide) ?_
        refine J_aload_n dL_law_596 1 rfl ?_
        refine J_sload_n dL_law_597 0 rfl ?_
        refine J_iload dL_law_598 4 rfl ?_
        refine J_iconst (v := 1) dL_law_600 (by decide) ?_
        refine J_iadd dL_law_601 ?_
        obtain ⟨hk, H⟩ := H
        refine J_sld dL_law_602 hk ?_
        refine J_sload_n dL_law_603 0 rfl ?_
        refine J_iload dL_law_604 4 rfl ?_
        refine J_iconst (v := 2) dL_law_606 (by decide) ?_
        refine J_iadd dL_law_607 ?_
        obtain ⟨hk, H⟩ := H
        refine J_sld dL_law_608 hk ?_
        obtain ⟨⟨fs, hh⟩, H⟩ := H
        refine J_callV (As := [.int (g.2.2.2.1.2.2 (Int32.toNatClampNeg (i4 + 1))), .int (g.2.2.2.1.2.2 (Int32.toNatClampNeg (i4 + 2)))]) (S := []) (b := a1) dL_law_609 mX8_linked_ok kL_75 rfl (by decide) (Nat.le_of_ble_eq_true rfl) hh rfl rfl (Nat.le_of_ble_eq_true rfl) ⟨hk0.1, hk0.2⟩ (fun k h' hp => ?_) H (fun r h91 hp => ?_)
        · obtain ⟨_, hv, -⟩ := hp; cases hv
        obtain ⟨v92, rfl, H⟩ := hp
        show am_J l g mLaw (d + 1) (kc, ks, false) 612 [(0, .retAddr 0), (1, .ref a1), (2, .ref a2), (3, .ref a3), (4, .int i4)] [.int v92] h91 Q
        refine J_aload_n dL_law_612 2 rfl ?_
        refine J_sload_n dL_law_613 0 rfl ?_
        refine J_iload dL_law_614 4 rfl ?_
        refine J_iconst (v := 1) dL_law_616 (by decide) ?_
        refine J_iadd dL_law_617 ?_
        obtain ⟨hk, H⟩ := H
        refine J_sld dL_law_618 hk ?_
        refine J_sload_n dL_law_619 0 rfl ?_
        refine J_iload dL_law_620 4 rfl ?_
        refine J_iconst (v := 2) dL_law_622 (by decide) ?_
        refine J_iadd dL_law_623 ?_
        obtain ⟨hk, H⟩ := H
        refine J_sld dL_law_624 hk ?_
        obtain ⟨⟨fs, hh⟩, H⟩ := H
        refine J_callV (As := [.int (g.2.2.2.1.2.2 (Int32.toNatClampNeg (i4 + 1))), .int (g.2.2.2.1.2.2 (Int32.toNatClampNeg (i4 + 2)))]) (S := [.int v92]) (b := a2) dL_law_625 mX9_linked_ok kL_78 rfl (by decide) (Nat.le_of_ble_eq_true rfl) hh rfl rfl (Nat.le_of_ble_eq_true rfl) ⟨hk0.1, hk0.2⟩ (fun k h' hp => ?_) H (fun r h95 hp => ?_)
        · obtain ⟨_, hv, -⟩ := hp; cases hv
        obtain ⟨v96, rfl, H⟩ := hp
        show am_J l g mLaw (d + 1) (kc, ks, false) 628 [(0, .retAddr 0), (1, .ref a1), (2, .ref a2), (3, .ref a3), (4, .int i4)] [.int v96, .int v92] h95 Q
        obtain ⟨H1, H2⟩ := H
        refine J_icmp_eq (tgt := 745) dL_law_628 (by decide) (fun hc => ?_) (fun hc => ?_)
        · replace H := H1 hc
          clear H1 H2
          exact J_pick [0, 1, 2, 3, 4] rfl (rLaw_745 H)
        · replace H := H2 hc
          clear H1 H2
          refine J_iconst (v := 0) dL_law_631 (by decide) ?_
          exact J_iret dL_law_632 ⟨_, rfl, rfl⟩ ⟨hk0.1, hk0.2, fun c => by cases c⟩ H
      · replace H := H.2.2.2.2.2.2.2.2.2.2.2.2.1 he
        refine J_tableIn (off := 593) (tgt := 633) dL_law_40 (by rw [he]; decide) (by rw [he]; decide) (by rw [he]; decide) (by decide) ?_
        refine J_aload_n dL_law_633 1 rfl ?_
        obtain ⟨⟨fs, hh⟩, H⟩ := H
        refine J_callV (As := []) (S := []) (b := a1) dL_law_634 mX8_fewest_ok kL_79 rfl (by decide) (Nat.le_of_ble_eq_true rfl) hh rfl rfl (Nat.le_of_ble_eq_true rfl) ⟨hk0.1, hk0.2⟩ (fun k h' hp => ?_) H (fun r h97 hp => ?_)
        · obtain ⟨_, hv, -⟩ := hp; cases hv
        obtain ⟨v98, rfl, H⟩ := hp
        show am_J l g mLaw (d + 1) (kc, ks, false) 637 [(0, .retAddr 0), (1, .ref a1), (2, .ref a2), (3, .ref a3), (4, .int i4)] [.int v98] h97 Q
        refine J_aload_n dL_law_637 2 rfl ?_
        obtain ⟨⟨fs, hh⟩, H⟩ := H
        refine J_callV (As := []) (S := [.int v98]) (b := a2) dL_law_638 mX9_fewest_ok kL_82 rfl (by decide) (Nat.le_of_ble_eq_true rfl) hh rfl rfl (Nat.le_of_ble_eq_true rfl) ⟨hk0.1, hk0.2⟩ (fun k h' hp => ?_) H (fun r h99 hp => ?_)
        · obtain ⟨_, hv, -⟩ := hp; cases hv
        obtain ⟨v100, rfl, H⟩ := hp
        show am_J l g mLaw (d + 1) (kc, ks, false) 641 [(0, .retAddr 0), (1, .ref a1), (2, .ref a2), (3, .ref a3), (4, .int i4)] [.int v100, .int v98] h99 Q
        obtain ⟨H1, H2⟩ := H
        refine J_icmp_eq (tgt := 745) dL_law_641 (by decide) (fun hc => ?_) (fun hc => ?_)
        · replace H := H1 hc
          clear H1 H2
          exact J_pick [0, 1, 2, 3, 4] rfl (rLaw_745 H)
        · replace H := H2 hc
          clear H1 H2
          refine J_iconst (v := 0) dL_law_644 (by decide) ?_
          exact J_iret dL_law_645 ⟨_, rfl, rfl⟩ ⟨hk0.1, hk0.2, fun c => by cases c⟩ H
      · replace H := H.2.2.2.2.2.2.2.2.2.2.2.2.2.1 he
        refine J_tableIn (off := 606) (tgt := 646) dL_law_40 (by rw [he]; decide) (by rw [he]; decide) (by rw [he]; decide) (by decide) ?_
        refine J_aload_n dL_law_646 1 rfl ?_
        refine J_sload_n dL_law_647 0 rfl ?_
        refine J_iload dL_law_648 4 rfl ?_
        refine J_iconst (v := 1) dL_law_650 (by decide) ?_
        refine J_iadd dL_law_651 ?_
        obtain ⟨hk, H⟩ := H
        refine J_sld dL_law_652 hk ?_
        obtain ⟨⟨fs, hh⟩, H⟩ := H
        refine J_callV (As := [.int (g.2.2.2.1.2.2 (Int32.toNatClampNeg (i4 + 1)))]) (S := []) (b := a1) dL_law_653 mX8_order_ok kL_83 rfl (by decide) (Nat.le_of_ble_eq_true rfl) hh rfl rfl (Nat.le_of_ble_eq_true rfl) ⟨hk0.1, hk0.2⟩ (fun k h' hp => ?_) H (fun r h102 hp => ?_)
        · obtain ⟨_, hv, -⟩ := hp; cases hv
        obtain ⟨v103, rfl, H⟩ := hp
        show am_J l g mLaw (d + 1) (kc, ks, false) 656 [(0, .retAddr 0), (1, .ref a1), (2, .ref a2), (3, .ref a3), (4, .int i4)] [.int v103] h102 Q
        refine J_aload_n dL_law_656 2 rfl ?_
        refine J_sload_n dL_law_657 0 rfl ?_
        refine J_iload dL_law_658 4 rfl ?_
        refine J_iconst (v := 1) dL_law_660 (by decide) ?_
        refine J_iadd dL_law_661 ?_
        obtain ⟨hk, H⟩ := H
        refine J_sld dL_law_662 hk ?_
        obtain ⟨⟨fs, hh⟩, H⟩ := H
        refine J_callV (As := [.int (g.2.2.2.1.2.2 (Int32.toNatClampNeg (i4 + 1)))]) (S := [.int v103]) (b := a2) dL_law_663 mX9_order_ok kL_86 rfl (by decide) (Nat.le_of_ble_eq_true rfl) hh rfl rfl (Nat.le_of_ble_eq_true rfl) ⟨hk0.1, hk0.2⟩ (fun k h' hp => ?_) H (fun r h105 hp => ?_)
        · obtain ⟨_, hv, -⟩ := hp; cases hv
        obtain ⟨v106, rfl, H⟩ := hp
        show am_J l g mLaw (d + 1) (kc, ks, false) 666 [(0, .retAddr 0), (1, .ref a1), (2, .ref a2), (3, .ref a3), (4, .int i4)] [.int v106, .int v103] h105 Q
        obtain ⟨H1, H2⟩ := H
        refine J_icmp_eq (tgt := 745) dL_law_666 (by decide) (fun hc => ?_) (fun hc => ?_)
        · replace H := H1 hc
          clear H1 H2
          exact J_pick [0, 1, 2, 3, 4] rfl (rLaw_745 H)
        · replace H := H2 hc
          clear H1 H2
          refine J_iconst (v := 0) dL_law_669 (by decide) ?_
          exact J_iret dL_law_670 ⟨_, rfl, rfl⟩ ⟨hk0.1, hk0.2, fun c => by cases c⟩ H
      · replace H := H.2.2.2.2.2.2.2.2.2.2.2.2.2.2.1 he
        refine J_tableIn (off := 631) (tgt := 671) dL_law_40 (by rw [he]; decide) (by rw [he]; decide) (by rw [he]; decide) (by decide) ?_
        refine J_aload_n dL_law_671 1 rfl ?_
        refine J_sload_n dL_law_672 0 rfl ?_
        refine J_iload dL_law_673 4 rfl ?_
        refine J_iconst (v := 1) dL_law_675 (by decide) ?_
        refine J_iadd dL_law_676 ?_
        obtain ⟨hk, H⟩ := H
        refine J_sld dL_law_677 hk ?_
        refine J_sload_n dL_law_678 0 rfl ?_
        refine J_iload dL_law_679 4 rfl ?_
        refine J_iconst (v := 2) dL_law_681 (by decide) ?_
        refine J_iadd dL_law_682 ?_
        obtain ⟨hk, H⟩ := H
        refine J_sld dL_law_683 hk ?_
        refine J_sload_n dL_law_684 0 rfl ?_
        refine J_iload dL_law_685 4 rfl ?_
        refine J_iconst (v := 3) dL_law_687 (by decide) ?_
        refine J_iadd dL_law_688 ?_
        obtain ⟨hk, H⟩ := H
        refine J_sld dL_law_689 hk ?_
        obtain ⟨⟨fs, hh⟩, H⟩ := H
        refine J_callV (As := [.int (g.2.2.2.1.2.2 (Int32.toNatClampNeg (i4 + 1))), .int (g.2.2.2.1.2.2 (Int32.toNatClampNeg (i4 + 2))), .int (g.2.2.2.1.2.2 (Int32.toNatClampNeg (i4 + 3)))]) (S := []) (b := a1) dL_law_690 mX8_sizes_ok kL_87 rfl (by decide) (Nat.le_of_ble_eq_true rfl) hh rfl rfl (Nat.le_of_ble_eq_true rfl) ⟨hk0.1, hk0.2⟩ (fun k h' hp => ?_) H (fun r h110 hp => ?_)
        · obtain ⟨_, hv, -⟩ := hp; cases hv
        obtain ⟨v111, rfl, H⟩ := hp
        show am_J l g mLaw (d + 1) (kc, ks, false) 693 [(0, .retAddr 0), (1, .ref a1), (2, .ref a2), (3, .ref a3), (4, .int i4)] [.int v111] h110 Q
        refine J_aload_n dL_law_693 2 rfl ?_
        refine J_sload_n dL_law_694 0 rfl ?_
        refine J_iload dL_law_695 4 rfl ?_
        refine J_iconst (v := 1) dL_law_697 (by decide) ?_
        refine J_iadd dL_law_698 ?_
        obtain ⟨hk, H⟩ := H
        refine J_sld dL_law_699 hk ?_
        refine J_sload_n dL_law_700 0 rfl ?_
        refine J_iload dL_law_701 4 rfl ?_
        refine J_iconst (v := 2) dL_law_703 (by decide) ?_
        refine J_iadd dL_law_704 ?_
        obtain ⟨hk, H⟩ := H
        refine J_sld dL_law_705 hk ?_
        refine J_sload_n dL_law_706 0 rfl ?_
        refine J_iload dL_law_707 4 rfl ?_
        refine J_iconst (v := 3) dL_law_709 (by decide) ?_
        refine J_iadd dL_law_710 ?_
        obtain ⟨hk, H⟩ := H
        refine J_sld dL_law_711 hk ?_
        obtain ⟨⟨fs, hh⟩, H⟩ := H
        refine J_callV (As := [.int (g.2.2.2.1.2.2 (Int32.toNatClampNeg (i4 + 1))), .int (g.2.2.2.1.2.2 (Int32.toNatClampNeg (i4 + 2))), .int (g.2.2.2.1.2.2 (Int32.toNatClampNeg (i4 + 3)))]) (S := [.int v111]) (b := a2) dL_law_712 mX9_sizes_ok kL_91 rfl (by decide) (Nat.le_of_ble_eq_true rfl) hh rfl rfl (Nat.le_of_ble_eq_true rfl) ⟨hk0.1, hk0.2⟩ (fun k h' hp => ?_) H (fun r h115 hp => ?_)
        · obtain ⟨_, hv, -⟩ := hp; cases hv
        obtain ⟨v116, rfl, H⟩ := hp
        show am_J l g mLaw (d + 1) (kc, ks, false) 715 [(0, .retAddr 0), (1, .ref a1), (2, .ref a2), (3, .ref a3), (4, .int i4)] [.int v116, .int v111] h115 Q
        obtain ⟨H1, H2⟩ := H
        refine J_icmp_eq (tgt := 745) dL_law_715 (by decide) (fun hc => ?_) (fun hc => ?_)
        · replace H := H1 hc
          clear H1 H2
          exact J_pick [0, 1, 2, 3, 4] rfl (rLaw_745 H)
        · replace H := H2 hc
          clear H1 H2
          refine J_iconst (v := 0) dL_law_718 (by decide) ?_
          exact J_iret dL_law_719 ⟨_, rfl, rfl⟩ ⟨hk0.1, hk0.2, fun c => by cases c⟩ H
      · replace H := H.2.2.2.2.2.2.2.2.2.2.2.2.2.2.2 he
        refine J_tableIn (off := 680) (tgt := 720) dL_law_40 (by rw [he]; decide) (by rw [he]; decide) (by rw [he]; decide) (by decide) ?_
        refine J_aload_n dL_law_720 1 rfl ?_
        refine J_sload_n dL_law_721 0 rfl ?_
        refine J_iload dL_law_722 4 rfl ?_
        refine J_iconst (v := 1) dL_law_724 (by decide) ?_
        refine J_iadd dL_law_725 ?_
        obtain ⟨hk, H⟩ := H
        refine J_sld dL_law_726 hk ?_
        obtain ⟨⟨fs, hh⟩, H⟩ := H
        refine J_callV (As := [.int (g.2.2.2.1.2.2 (Int32.toNatClampNeg (i4 + 1)))]) (S := []) (b := a1) dL_law_727 mX8_count_ok kL_92 rfl (by decide) (Nat.le_of_ble_eq_true rfl) hh rfl rfl (Nat.le_of_ble_eq_true rfl) ⟨hk0.1, hk0.2⟩ (fun k h' hp => ?_) H (fun r h118 hp => ?_)
        · obtain ⟨_, hv, -⟩ := hp; cases hv
        obtain ⟨v119, rfl, H⟩ := hp
        show am_J l g mLaw (d + 1) (kc, ks, false) 730 [(0, .retAddr 0), (1, .ref a1), (2, .ref a2), (3, .ref a3), (4, .int i4)] [.int v119] h118 Q
        refine J_aload_n dL_law_730 2 rfl ?_
        refine J_sload_n dL_law_731 0 rfl ?_
        refine J_iload dL_law_732 4 rfl ?_
        refine J_iconst (v := 1) dL_law_734 (by decide) ?_
        refine J_iadd dL_law_735 ?_
        obtain ⟨hk, H⟩ := H
        refine J_sld dL_law_736 hk ?_
        obtain ⟨⟨fs, hh⟩, H⟩ := H
        refine J_callV (As := [.int (g.2.2.2.1.2.2 (Int32.toNatClampNeg (i4 + 1)))]) (S := [.int v119]) (b := a2) dL_law_737 mX9_count_ok kL_95 rfl (by decide) (Nat.le_of_ble_eq_true rfl) hh rfl rfl (Nat.le_of_ble_eq_true rfl) ⟨hk0.1, hk0.2⟩ (fun k h' hp => ?_) H (fun r h121 hp => ?_)
        · obtain ⟨_, hv, -⟩ := hp; cases hv
        obtain ⟨v122, rfl, H⟩ := hp
        show am_J l g mLaw (d + 1) (kc, ks, false) 740 [(0, .retAddr 0), (1, .ref a1), (2, .ref a2), (3, .ref a3), (4, .int i4)] [.int v122, .int v119] h121 Q
        obtain ⟨H1, H2⟩ := H
        refine J_icmp_eq (tgt := 745) dL_law_740 (by decide) (fun hc => ?_) (fun hc => ?_)
        · replace H := H1 hc
          clear H1 H2
          exact J_pick [0, 1, 2, 3, 4] rfl (rLaw_745 H)
        · replace H := H2 hc
          clear H1 H2
          refine J_iconst (v := 0) dL_law_743 (by decide) ?_
          exact J_iret dL_law_744 ⟨_, rfl, rfl⟩ ⟨hk0.1, hk0.2, fun c => by cases c⟩ H
