section Vq
variable {N en i j k p t w b rd xx tk lo n o : Nat} {tx : Nat → Int32} {K L M : Mem} {f v u g hc hm a c d : Int32} {r q : Rho} {m m2 z : Nat → Int32}
noncomputable def tl1 (N : Nat) (p : Int32) (r : Rho) : Option Rho :=
  (f_R_has_ N 60 r).bind fun z2 => if z2.1 = 0 then ((f_R_has_ N 61 z2.2).bind fun z3 => if z3.1 = 0 then ((f_R_has_ N 63 z3.2).bind fun z4 => if z4.1 = 0 then ((f_R_has_ N 51 z4.2).bind fun z5 => if z5.1 = 0 then ((f_R_has_ N 65 z5.2).bind fun z6 => if z6.1 = 0 then ((f_R_has_ N 66 z6.2).bind fun z7 => if z7.1 = 0 then ((f_R_has_ N 67 z7.2).bind fun z8 => if z8.1 = 0 then ((f_R_has_ N 68 z8.2).bind fun z9 => if z9.1 = 0 then ((f_R_wrong (z9.2.1 11) z9.2).bind fun z10 => some z10) else ((f_R_tells N 15 z9.2).bind fun z11 => some z11)) else ((f_R_tells N 14 z8.2).bind fun z12 => some z12)) else ((f_R_tells N 13 z7.2).bind fun z13 => some z13)) else ((f_R_tieLine N p z6.2).bind fun z14 => some z14)) else ((rld z5.2 1 5).bind fun v15 => (f_R_figures N 0 (v15 - 1) z5.2).bind fun z16 => if (z16.2.1 12) = (-1) then ((f_R_has z16.1 4 1 z16.2).bind fun z17 => some z17) else (some z16.2))) else ((f_R_personLine N p z4.2).bind fun z18 => some z18)) else ((f_R_habitLine N p z3.2).bind fun z19 => some z19)) else ((rld z2.2 1 3).bind fun v20 => if v20 = 6 then ((f_R_wrong p z2.2).bind fun z21 => f_R_townLine_30 N z21) else (f_R_townLine_30 N z2.2))
theorem tl1_eq (N : Nat) (r : Rho) : f_R_townLine N r = (f_R_place N r).bind fun z1 => tl1 N z1.1 z1.2 := by
  unfold f_R_townLine tl1
  rfl
theorem bind_some {α : Type} (x : Option α) : (x.bind fun z => some z) = x := by cases x <;> rfl
theorem LNS.fin {i0 : Nat} {cls : Option Mem} {md : Rho → Option Rho} (h : LNS rd xx t en tx K i0 f m cls md) : LNS rd xx t en tx K i0 f m (cls.bind fun z => some z) (fun r => (md r).bind fun z => some z) := by
  rw [bind_some, show (fun r => (md r).bind fun z => some z) = md from funext fun r => bind_some _]
  exact h
theorem land_all (H : TLS K rd xx t en tx i tk (-1)) (hen : en ≤ 400) (hN : 500 < N) (I : Inv m) (R : TRel K t m) : LNS rd xx t en tx K i (-1) m (f_TR_readLand rd K) (fun r => (rld r 1 3).bind fun v20 => if v20 = 6 then ((f_R_wrong (iN tk) r).bind fun z21 => f_R_townLine_30 N z21) else (f_R_townLine_30 N r)) := by
  have hb := I.b3
  have hn := I.n3
  unfold f_TR_readLand
  rw [H.g6, ob, H.S.g_lands, ob, H.S.i1, ob, R.v3, hn]
  by_cases h : cn m 3 < 6
  · obtain ⟨I2, R2⟩ := land_T R I h
    refine ⟨_, i, tk, -1, _, ?_, H.set (o := 1) (by decide) 1 (m 3 + 1), (FRt.refl K).set (o := 1) (by decide) 1 (m 3 + 1), fun _ => ⟨I2, R2⟩, fun r hT ms hr => ⟨setM r (up1 m 3 (m 3 + 1)), ?_, (Lx.refl r).lym fun k hk => by rw [hr, up1_ne (by omega)], ms.set _, fun _ => setM_m _ _⟩⟩
    · rw [if_pos (show iN (cn m 3) < 6 from iN_ylt (n := 6) h (by decide)), ob, H.S.g_lands, ob, H.S.i1, ob, R.v3, H.S.p1, ob]
    · dsimp only
      rw [rlm3, ob, hr, hn, if_neg (show ¬ iN (cn m 3) = 6 from iN_ne (b := 6) (by omega) (by omega) (by decide))]
      unfold f_R_townLine_30
      rw [if_pos (ms.1 rfl).1, rlm3, ob, hr, wrm3, ob, hr, hn]
  · rw [if_neg (show ¬ iN (cn m 3) < 6 from fun y => absurd (iN_yle (n := 6) (k := cn m 3) (by omega) (by omega)) (Int32.not_le.mpr y)), H.A.fc, ob]
    obtain ⟨L, l1, l2, l3⟩ := takenIsWrong_8 H.A H.C
    rw [if_pos rfl] at l3
    have hte := H.te
    have hne : iN tk ≠ -1 := iN_m1 (by omega)
    rw [l1, ob]
    refine ⟨L, i, tk, iN tk, m, rfl, H.rq l2 l3, l2.frt, fun h => absurd h hne, fun r hT ms hr => ?_⟩
    obtain ⟨w1, w2, w3⟩ := wrong_b (p := tk) hen hte ms
    refine ⟨_, ?_, w2.ly, w3, fun h => absurd h hne⟩
    dsimp only
    rw [rlm3, ob, hr, hn, if_pos (show iN (cn m 3) = 6 from congrArg iN (show cn m 3 = 6 by omega)), w1, ob]
    unfold f_R_townLine_30
    rw [set_s, if_neg hne]
theorem line_t (H : TLS K rd xx t en tx i tk (-1)) (hen : en ≤ 400) (hN : 500 < N) (I : Inv m) (R : TRel K t m) : LNS rd xx t en tx K i (-1) m (f_TR_readLine N rd K) (f_R_townLine N) := by
  have hi := H.ie
  refine LNS.step (i1 := i) (f1 := -1) (md0 := tl1 N (iN i)) (Rq.refl K) ?_ fun r hT ms hr => ?_
  · unfold f_TR_readLine
    rw [H.A.fc, ob]
    refine LNS.word H hen hN (wc := 18) (wm := 60) (by decide) (by decide) rfl (if_pos rfl) (fun L => if_neg i1n) (fun r => if_pos rfl) (fun r => if_neg i1n) ?_ fun L i1 g HL => ?_
    · dsimp only
      rw [H.A.fc, ob]
      refine LNS.word H hen hN (wc := 19) (wm := 61) (by decide) (by decide) rfl (if_pos rfl) (fun L => if_neg i1n) (fun r => if_pos rfl) (fun r => if_neg i1n) ?_ fun L i1 g HL => ?_
      · dsimp only
        rw [H.A.fc, ob]
        refine LNS.word H hen hN (wc := 21) (wm := 63) (by decide) (by decide) rfl (if_pos rfl) (fun L => if_neg i1n) (fun r => if_pos rfl) (fun r => if_neg i1n) ?_ fun L i1 g HL => ?_
        · dsimp only
          rw [H.A.fc, ob]
          refine LNS.word H hen hN (wc := 24) (wm := 51) (by decide) (by decide) rfl (if_pos rfl) (fun L => if_neg i1n) (fun r => if_pos rfl) (fun r => if_neg i1n) ?_ fun L i1 g HL => ?_
          · dsimp only
            rw [H.A.fc, ob]
            refine LNS.word H hen hN (wc := 25) (wm := 65) (by decide) (by decide) rfl (if_pos rfl) (fun L => if_neg i1n) (fun r => if_pos rfl) (fun r => if_neg i1n) ?_ fun L i1 g HL => ?_
            · dsimp only
              rw [H.A.fc, ob, bind_some]
              unfold f_TR_readPrice
              rw [H.A.fc, ob]
              refine LNS.word H hen hN (wc := 26) (wm := 66) (by decide) (by decide) rfl (if_pos rfl) (fun L => if_neg i1n) (fun r => if_pos rfl) (fun r => if_neg i1n) ?_ fun L i1 g HL => ?_
              · dsimp only
                rw [H.A.fc, ob]
                refine LNS.word H hen hN (wc := 27) (wm := 67) (by decide) (by decide) rfl (if_pos rfl) (fun L => if_neg i1n) (fun r => if_pos rfl) (fun r => if_neg i1n) ?_ fun L i1 g HL => ?_
                · dsimp only
                  unfold f_TR_readPrice_24 f_TR_readPrice_25
                  rw [if_pos rfl, if_pos rfl, H.A.fc, ob]
                  have e40 : ∀ (M : Mem) (i2 tk2 : Nat) (f2 : Int32), TLS M rd xx t en tx i2 tk2 f2 → f_TR_readPrice_40 N rd 0 0 M = ((f_TxR_readNumber_8 N rd 0 99 M).bind fun z4 => (gR z4.2 8 rd 6).bind fun v5 => (gR z4.2 7 v5 0).bind fun v6 => (gR z4.2 0 v6 0).bind fun v7 => (pI z4.2 4 v7 2 z4.1).bind fun M8 => some M8) := fun M i2 tk2 f2 HM => by
                    unfold f_TR_readPrice_40
                    rw [HM.A.fc, ob]
                    rfl
                  obtain ⟨L, l1, l2, l3⟩ := readWord_8 (N := N) (w := 28) H.A H.x hen hN H.C (by decide)
                  rw [l1, ob]
                  rcases l3 with ⟨-, h1, l3⟩ | ⟨h1, l3⟩
                  · have HL := H.rq l2 l3
                    rw [e40 L _ _ _ HL]
                    refine LNS.step l2 (price_ln (j := 2) HL hen hN I (H.rel l2 R) (by decide)) fun r hT ms hr => ?_
                    obtain ⟨q, p1, p2, p3, p4⟩ := has_y (N := N) (w := 68) hT hen hN (ms.1 rfl) (by decide) h1
                    refine ⟨q, p2, MS.l (ML.at (lw_b hi).2 p3 p4), ?_⟩
                    rw [p1, ob, if_neg (show ¬ ((1 : Int32), q).1 = 0 from i1n), bind_some]
                    rfl
                  · rw [if_pos rfl] at l3
                    have HL := H.rq l2 l3
                    have hne : iN i ≠ -1 := iN_m1 (by omega)
                    rw [e40 L _ _ _ HL]
                    refine LNS.step l2 (price_ln (j := 2) HL hen hN I (H.rel l2 R) (by decide)) fun r hT ms hr => ?_
                    obtain ⟨q, p1, p2, p3, p4⟩ := has_n2 (N := N) (w := 68) hT hen hN (ms.1 rfl) (by decide) (fun y => h1 ⟨rfl, y⟩)
                    obtain ⟨w1, w2, w3⟩ := wrong_b (p := i) (i := i) (tx := tx) hen hi (MS.l p3)
                    refine ⟨_, p2.trans w2, w3, ?_⟩
                    rw [p1, ob, if_pos rfl]
                    dsimp only
                    rw [p4, w1, ob]
                    unfold f_R_tells
                    have e : (r_set q 12 (iN i)).1 12 ≠ -1 := by rw [set_s]; exact hne
                    rw [fig_d e, ob, if_neg e]
                · dsimp only
                  unfold f_TR_readPrice_25 f_TR_readPrice_40
                  rw [if_pos rfl, if_neg i1n, HL.A.fc, ob]
                  exact LNS.step (Rq.refl L) (price_ln (j := 1) HL hen hN I (H.rel g R) (by decide)) fun r hT ms hr => ⟨r, Lx.refl r, ms, bind_some _⟩
              · dsimp only
                unfold f_TR_readPrice_24 f_TR_readPrice_25 f_TR_readPrice_40
                rw [if_neg i1n, HL.A.fc, ob]
                exact LNS.step (Rq.refl L) (price_ln (j := 0) HL hen hN I (H.rel g R) (by decide)) fun r hT ms hr => ⟨r, Lx.refl r, ms, bind_some _⟩
            · dsimp only
              rw [HL.A.fc, ob]
              exact (tie_all HL hen hN I (H.rel g R)).fin
          · dsimp only
            rw [HL.A.fc, ob, bind_some]
            exact cold_ln HL hen hN I (H.rel g R)
        · dsimp only
          rw [HL.A.fc, ob]
          exact (person_all HL hen hN I (H.rel g R)).fin
      · dsimp only
        rw [HL.A.fc, ob]
        exact (habit_all HL hen hN I (H.rel g R)).fin
    · dsimp only
      rw [HL.A.fc, ob, bind_some]
      exact land_all HL hen hN I (H.rel g R)
  · have ml := ms.1 rfl
    obtain ⟨q, m1, m2, m3, m4⟩ := skip_ml hT hen hN ml
    refine ⟨q, m2, MS.l (ML.at0 ml.le ml.sk m3 m4), ?_⟩
    rw [tl1_eq]
    unfold f_R_place
    rw [m1, ob, ob, m4]
end Vq
