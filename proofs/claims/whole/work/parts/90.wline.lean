-- ===== a will is read: a line from its beginning
theorem jW47 {d : Nat} {tp : Nat → Int32} {T b0 b n l he : Nat} {pa : Int32} {I0 J0 I J : MI} {L M : ML} (hT : T ≤ 400) (hd : 14 ≤ d) (hl : l < 12) (ws : WSt d tp T b n I0 J0 I J) (hb : b0 < b) (hnb : n < b) (lf : LF d l n I J) (ehe : J 150 (1295 + 4 * l) = nI he) (hhe : he ≤ 5) (epa : J 150 (1296 + 4 * l) = pa) (hpa : pa = -1 ∨ ∃ p, pa = nI p ∧ p ≤ 999) : JX L M false (FCd d I0) (FRw J0) (SW9 d tp T b0 l I0 J0) (f_X10_readLine_47 d (nI he) pa I L) (f_X12_readWillLine_96 (nI (1295 + 4 * l)) J M) := by
  have hbT := (RT_ok ws.2.1).1
  unfold f_X10_readLine_47 f_X12_readWillLine_96
  rw [show (2 : Int32) = nI 2 from rfl, zI_add, ws.2.2.2.2.2.2.2.1, stI_n (by omega) (by decide), Option.bind_some, show 1295 + 4 * l + 2 = 1297 + 4 * l by omega, pfe, Option.bind_some]
  have ws1 := WSt_d (x := 0) (WSt_l (k := 1297 + 4 * l) (x := nI n) ws (by omega) (by omega))
  have e150 : up2 (up2 J 150 (1297 + 4 * l) (nI n)) 149 12 0 150 = up2 J 150 (1297 + 4 * l) (nI n) 150 := zu_n _ _ _ (by decide)
  have lf1 : LF d l n I (up2 (up2 J 150 (1297 + 4 * l) (nI n)) 149 12 0) := LF_cg (LF_l (k := 1297 + 4 * l) (x := nI n) lf (by omega) (by omega)) rfl rfl rfl rfl rfl (fun k _ => by rw [e150]) (fun k _ _ => by rw [e150])
  have j5 : up2 (up2 J 150 (1297 + 4 * l) (nI n)) 149 12 0 150 (1295 + 4 * l) = nI he := by rw [e150, zu_s, if_neg (by omega)]; exact ehe
  have j6 : up2 (up2 J 150 (1297 + 4 * l) (nI n)) 149 12 0 150 (1296 + 4 * l) = pa := by rw [e150, zu_s, if_neg (by omega)]; exact epa
  have j7 : up2 (up2 J 150 (1297 + 4 * l) (nI n)) 149 12 0 150 (1297 + 4 * l) = nI n := by rw [e150, zu_s, if_pos rfl]
  have j12 : up2 (up2 J 150 (1297 + 4 * l) (nI n)) 149 12 0 149 12 = nI 0 := by rw [zu_s, if_pos rfl]; rfl
  generalize up2 (up2 J 150 (1297 + 4 * l) (nI n)) 149 12 0 = J1 at ws1 lf1 j5 j6 j7 j12 ⊢
  obtain ⟨⟨y, J2, M2⟩, t1, t2, t3, t4, t5, t6, t7⟩ := r_passes (i := 58) (L := M) hT (by decide) ws1.2.1
  have t3 : M2 = M := t3
  subst t3
  have ew : wdB tp T 58 b = wdB tp T 20 b := wd_cg rfl
  dsimp only at t2 t4 t5 t6 t7
  rw [ew] at t2 t6 t7
  have e2 : J2 150 = J1 150 := t4.1 150 (by decide)
  rw [t1, Option.bind_some]
  dsimp only
  cases hw : wdB tp T 20 b
  · rw [hw] at t2
    subst t2
    rw [c_takes_f hT hbT (by decide) ws.1 hw, Option.bind_some, if_neg Bool.false_ne_true, if_neg Bool.false_ne_true]
    exact jEnd hT hd hl (WSt_t hd ws1 ws.1 (t7 hw) (only1_rf _) t4) hb (by omega) (Nat.le_refl _) (LF_t hd lf1 (only1_rf _) t4) (by rw [e2]; exact j5) hhe (by rw [e2]; exact j6) hpa (by rw [e2]; exact j7) (Or.inl rfl)
  · rw [hw] at t2
    subst t2
    have nx1 := nx_lt (tp := tp) (wd_te (by decide) hw).1
    obtain ⟨I2, s1, s3, s4⟩ := c_takes_t (L := L) hT hbT (by decide) ws.1 hw
    have ws2 := WSt_t hd ws1 s3 (t6 hw) s4 t4
    have lf2 := LF_t hd lf1 s4 t4
    rw [s1, Option.bind_some, if_pos rfl, if_pos rfl]
    dsimp only
    refine JX_bind ((xCond (L := L) (M := M2) hT hd 40).1 0 (by decide) (by decide) (nx tp T b) n I2 J2 (by omega) ws2 ((t4.2 12 (by decide) (by decide)).trans j12)) (fun _ o => o) (fun J' o => ⟨J', by dsimp only; rw [if_neg Bool.false_ne_true], rfl, o⟩) ?_
    intro _ v' I3 J3 ⟨e, b3, n3, g1, g2, g3, ws3, xt3, ty3⟩
    subst e
    dsimp only
    rw [if_pos rfl]
    have lf3 : LF d l n I3 J3 := LF_cg lf2 rfl xt3.1.1 xt3.1.2.1 xt3.1.2.2.1 xt3.1.2.2.2 (fun k hk => xt3.2.1 k (by omega)) (fun k _ hk => xt3.2.1 k hk)
    exact jEnd hT hd hl ws3 (by omega) (by omega) (by omega) lf3 (by rw [xt3.2.1 _ (by omega), e2]; exact j5) hhe (by rw [xt3.2.1 _ (by omega), e2]; exact j6) hpa (by rw [xt3.2.1 _ (by omega), e2]; exact j7) (Or.inr (ty3 [] (by decide)))
theorem jW17 {d : Nat} {tp : Nat → Int32} {T b0 b n l : Nat} {y : Bool} {I0 J0 I J : MI} {L M : ML} (hT : T ≤ 400) (hd : 14 ≤ d) (hl : l < 12) (ws : WSt d tp T b n I0 J0 I J) (hb : b0 < b) (hnb : n < b) (lf : LF d l n I J) : JX L M false (FCd d I0) (FRw J0) (SW9 d tp T b0 l I0 J0) (f_X10_readLine_17 d y I L) (f_X12_readWillLine_30 (nI (1295 + 4 * l)) (!y) J M) := by
  have hbT := (RT_ok ws.2.1).1
  unfold f_X10_readLine_17 f_X12_readWillLine_30
  have bk : 1295 + 4 * l < 2143 := by omega
  refine JX_bind (xNum hT (by decide) ws.1 ws.2.1) (fun I' o => FCd_x ws.2.2.2.1 o) (fun J' o => ⟨up2 J' 150 (1295 + 4 * l) (-1), ?_, by rw [zu_n _ _ _ (by decide)], FRw_w (FRw_o ws.2.2.2.2.2.1 o) (by omega)⟩) ?_
  · dsimp only
    rw [stI_n bk (by decide), Option.bind_some, ldI_n bk (by decide), Option.bind_some, zu_s, if_pos rfl, if_neg (by decide)]
  · intro v v2 I2 J2 ⟨he, n1, n2, n3, e1, e2, c2, r2, p1, p2, hbl, _⟩
    subst e1; subst e2
    have hhe := SN_hi (H := 5) n3 n1 (by decide)
    have nx1 := nx_lt (tp := tp) hbl
    have ws2 := WSt_l (k := 1295 + 4 * l) (x := nI he) (WSt_t hd ws c2 r2 p1 p2) (by omega) (by omega)
    have lf2 := LF_l (k := 1295 + 4 * l) (x := nI he) (LF_t hd lf p1 p2) (by omega) (by omega)
    have j5 : up2 J2 150 (1295 + 4 * l) (nI he) 150 (1295 + 4 * l) = nI he := by rw [zu_s, if_pos rfl]
    dsimp only
    rw [stI_n bk (by decide), Option.bind_some, ldI_n bk (by decide), Option.bind_some, j5, if_pos (nn_n (by omega))]
    generalize up2 J2 150 (1295 + 4 * l) (nI he) = J3 at ws2 lf2 j5 ⊢
    -- the share's field
    have go : ∀ (b' : Nat) (I4 J4 : MI) (pa : Int32), (pa = -1 ∨ ∃ p, pa = nI p ∧ p ≤ 999) → nx tp T b ≤ b' → WSt d tp T b' n I0 J0 I4 J4 → LF d l n I4 J4 → J4 150 (1295 + 4 * l) = nI he → JX L M false (FCd d I0) (FRw J0) (SW9 d tp T b0 l I0 J0) (f_X10_readLine_47 d (nI he) pa I4 L) (f_X12_readWillLine_96 (nI (1295 + 4 * l)) (up2 J4 150 (1296 + 4 * l) pa) M) := by
      intro b' I4 J4 pa hpa hb' ws4 lf4 ehe
      exact jW47 hT hd hl (WSt_l (k := 1296 + 4 * l) (x := pa) ws4 (by omega) (by omega)) (by omega) (by omega) (LF_l (k := 1296 + 4 * l) (x := pa) lf4 (by omega) (by omega)) (by rw [zu_s, if_neg (by omega)]; exact ehe) hhe (by rw [zu_s, if_pos rfl]) hpa
    cases y
    · rw [if_neg Bool.false_ne_true, if_pos (show (!false) = true from rfl)]
      refine jAfter (i := 19) (j := 57) hT (by decide) (by decide) rfl (by decide) ws2.1 ws2.2.1 (fun I' o => FCd_x ws2.2.2.2.1 o) (fun J' o => ⟨up2 J' 150 (1296 + 4 * l) (-1), ?_, by rw [zu_n _ _ _ (by decide)], FRw_w (FRw_o ws2.2.2.2.2.2.1 o) (by omega)⟩) ?_
      · unfold f_X12_readWillLine_78
        dsimp only
        rw [zI_1, show 1295 + 4 * l + 1 = 1296 + 4 * l by omega, stI_n (by omega) (by decide), Option.bind_some, if_pos (show (!false) = true from rfl), ldI_n (by omega) (by decide), Option.bind_some, zu_s, if_pos rfl, if_neg (by decide)]
      · intro p I4 J4 m1 m2 m3 c4 r4 p3 p4
        have hp := SN_hi (H := 999) m3 m1 (by decide)
        have ws4 := WSt_t hd ws2 c4 r4 p3 p4
        have hge := (nx_T (tp := tp) (T := T) (b := nx tp T b) nx1.2)
        have hge1 := te_T (tp := tp) (T := T) (b := nx tp T b) nx1.2
        have hge2 := (nx_T (tp := tp) (T := T) (b := nx tp T (nx tp T b)) hge.2)
        have hge3 := te_T (tp := tp) (T := T) (b := nx tp T (nx tp T b)) hge.2
        unfold f_X12_readWillLine_78
        dsimp only
        rw [zI_1, show 1295 + 4 * l + 1 = 1296 + 4 * l by omega, stI_n (by omega) (by decide), Option.bind_some, if_pos (show (!false) = true from rfl), ldI_n (by omega) (by decide), Option.bind_some, zu_s, if_pos rfl, if_pos (nn_n (by omega))]
        exact go _ I4 J4 (nI p) (Or.inr ⟨p, rfl, hp⟩) (by omega) ws4 (LF_t hd lf2 p3 p4) (by rw [p4.1 150 (by decide)]; exact j5)
    · rw [if_pos rfl, if_neg (show ¬ (!true) = true by decide)]
      unfold f_X12_readWillLine_78
      rw [zI_1, show 1295 + 4 * l + 1 = 1296 + 4 * l by omega, stI_n (by omega) (by decide), Option.bind_some, if_neg (show ¬ (!true) = true by decide)]
      exact go _ I2 J3 (-1) (Or.inl rfl) (Nat.le_refl _) ws2 lf2 j5
theorem jWill {d : Nat} {tp : Nat → Int32} {T b n l : Nat} {I0 J0 I J J1 : MI} {L M : ML} (hT : T ≤ 400) (hd : 14 ≤ d) (hl : l < 12) (ws : WSt d tp T b n I0 J0 I J) (hnb : n ≤ b) (lf : LF d l n I J) (hrl : RLe tp T b (rn (isLe tp) T b) J1) (ho : o149 J J1) : JX L M false (FCd d I0) (FRw J0) (SW9 d tp T b l I0 J0) (f_X10_readLine d I L) (f_X12_readWillLine (nI l) J1 M) := by
  have hbT := (RT_ok ws.2.1).1
  have q17 : wdB tp T 56 b = wdB tp T 17 b := wd_cg rfl
  have q18 : wdB tp T 55 b = wdB tp T 18 b := wd_cg rfl
  have ex : (1295 : Int32) + 4 * nI l = nI (1295 + 4 * l) := by rw [show (4 : Int32) = nI 4 from rfl, zI_mul]; exact zI_add 1295 _
  unfold f_X10_readLine f_X12_readWillLine
  rw [r_isWord hT hbT (by decide) hrl, Option.bind_some, q18, r_isWord hT hbT (by decide) hrl, Option.bind_some, q17, ex]
  have nxt : ∀ {i : Nat} {I2 : MI}, 1 ≤ sLen i → wdB tp T i b = true → CT tp T (nx tp T b) I2 → only1 I I2 → b < nx tp T b ∧ WSt d tp T (nx tp T b) n I0 J0 I2 J1 ∧ LF d l n I2 J1 := fun hs hw c2 o2 => ⟨(nx_lt (wd_te hs hw).1).1, WSt_t hd ws c2 (RLe_nx hbT (by rw [(wd_te hs hw).2.1]; exact hrl)) o2 ho, LF_t hd lf o2 ho⟩
  cases g17 : wdB tp T 17 b
  · rw [c_takes_f hT hbT (by decide) ws.1 g17, Option.bind_some, if_neg Bool.false_ne_true]
    dsimp only
    obtain ⟨⟨x, I3, L3⟩, s1, s2, s3, s4⟩ := c_needWord (L := L) (i := 18) hT hbT (by decide) ws.1
    have s2 : L3 = L := s2
    subst s2
    rw [s1, Option.bind_some]
    dsimp only at s3 s4
    cases g18 : wdB tp T 18 b
    · obtain ⟨t1, t2⟩ := s4 g18
      rw [t1, xc_l, if_neg Bool.false_ne_true, if_neg Bool.false_ne_true]
      exact JX_no t2.2.2 hrl.2.2 (CF_C ws.2.2.2.1 t2) (FRw_o ws.2.2.2.2.2.1 ho)
    · obtain ⟨t1, t2, t3⟩ := s3 g18
      rw [t1, xc_r, if_pos rfl]
      obtain ⟨k1, k2, k3⟩ := nxt (by decide) g18 t2 t3
      exact jW17 (y := false) hT hd hl k2 k1 (by omega) k3
  · have g18 : wdB tp T 18 b = false := wd_x (i := 17) (by decide) (by decide) (by decide) g17
    obtain ⟨I2, s1, s3, s4⟩ := c_takes_t (L := L) hT hbT (by decide) ws.1 g17
    rw [s1, Option.bind_some, if_pos rfl, g18, if_neg Bool.false_ne_true, if_pos rfl]
    obtain ⟨k1, k2, k3⟩ := nxt (by decide) g17 s3 s4
    exact jW17 (y := true) hT hd hl k2 k1 (by omega) k3
