section Cd
variable {N x o t B : Nat} {ps ys : Nat → Nat} {M K : Mem} {r q : Rho} {a b d e v g l : Int32} {n p s c k : Nat} {m m2 : Nat → Int32}
/-- who the k-th tie is of, as a set -/
def cdT (m : Nat → Int32) (k : Nat) : Int32 := ((1 : Int32) <<< (tA m k &&& 31)) ||| ((1 : Int32) <<< (tB m k &&& 31))
def cdP (m : Nat → Int32) (sh : Int32) (k : Nat) (z : Int32) : Int32 := if cdT m k &&& sh = 0 then (if cdT m k &&& z = 0 then z else z ||| cdT m k) else z
def cdR (m : Nat → Int32) (sh z : Int32) : Int32 := lp (cdP m sh) (cn m 6) 0 z
theorem cdR_fix (m : Nat → Int32) (sh : Int32) {z : Int32} (h : cdR m sh z = z) : ∀ (j k : Nat), lp (fun _ z => cdR m sh z) j k z = z := by
  intro j
  induction j with
  | zero => intro k; rfl
  | succ j ih =>
    intro k
    show lp (fun _ z => cdR m sh z) j (k + 1) (cdR m sh z) = z
    rw [h]
    exact ih (k + 1)
theorem coldsAfter_eq (S : Shape M t) (I : Inv m) (R : TRel M t m) (hN : 40 < N) (hn : n ≤ 20) : f_Town_coldsAfter N t a (iN n) M = some (lp (fun _ z => cdR m a z) n 0 (cdS m)) := by
  have h6 := I.b6
  have inner : ∀ (k8 : Int32 → Int32 → Option Int32) (x4 x5 z : Int32), f_Town_coldsAfter_20 N t a (iN n) M k8 N z x4 x5 0 = if cdR m a z = x5 then some (cdR m a z) else k8 (cdR m a z) (x4 + 1) := fun k8 x4 x5 z => by
    unfold cdR
    refine lp_run (F := fun fuel k z => f_Town_coldsAfter_20 N t a (iN n) M k8 fuel z x4 x5 (iN k)) (f := cdP m a) (fin := fun z => if z = x5 then some z else k8 z (x4 + 1)) (n := cn m 6) (fun fuel z => ?_) (fun fuel k z hk => ?_) _ 0 z N (by omega) (by omega)
    · rw [f_Town_coldsAfter_20, S.i0, ob, R.v6, I.n6, if_pos (i_le_rfl _)]
    · obtain ⟨eA, eB⟩ := R.E k hk
      rw [f_Town_coldsAfter_20, S.i0, ob, R.v6, I.n6, if_neg (iN_nle hk (by omega)), S.g_who, ob, S.a7 (by omega), ob, S.g_whom, ob, S.a8 (by omega), ob, eA, eB, iN_s]
      unfold cdP
      show (if cdT m k &&& a = 0 then (if cdT m k &&& z = 0 then _ else f_Town_coldsAfter_20 N t a (iN n) M k8 fuel (z ||| cdT m k) x4 x5 (iN (k + 1))) else _) = _
      by_cases h1 : cdT m k &&& a = 0
      · rw [if_pos h1, if_pos h1]
        by_cases h2 : cdT m k &&& z = 0
        · rw [if_pos h2, if_pos h2]
        · rw [if_neg h2, if_neg h2]
      · rw [if_neg h1, if_neg h1]
  have key : ∀ (j k fuel : Nat) (z : Int32), k + j = n → j < fuel → f_Town_coldsAfter_8 N t a (iN n) M fuel z (iN k) = some (lp (fun _ z => cdR m a z) j k z) := by
    intro j
    induction j with
    | zero =>
      intro k fuel z hk hf
      obtain ⟨fu, rfl⟩ : ∃ fu, fuel = fu + 1 := ⟨fuel - 1, by omega⟩
      rw [f_Town_coldsAfter_8, if_pos (iN_yle (by omega) (by omega))]
      rfl
    | succ j ih =>
      intro k fuel z hk hf
      obtain ⟨fu, rfl⟩ : ∃ fu, fuel = fu + 1 := ⟨fuel - 1, by omega⟩
      rw [f_Town_coldsAfter_8, if_neg (iN_nle (by omega) (by omega)), inner, iN_s]
      show _ = some (lp (fun _ z => cdR m a z) j (k + 1) (cdR m a z))
      by_cases h : cdR m a z = z
      · rw [if_pos h, cdR_fix m a (by rw [h]; exact h)]
      · rw [if_neg h]
        exact ih (k + 1) fu _ (by omega) (by omega)
  unfold f_Town_coldsAfter
  rw [S.c0, ob, f_Town_peopleWithCold_eq S I R hN, ob]
  exact key n 0 N _ (by omega) (by omega)
theorem passes_eq (I : Inv (r.2 1)) (hN : 40 < N) (hn : n ≤ 20) : f_R_passes N a (iN n) r = some (lp (fun _ z => cdR (r.2 1) a z) n 0 (cdS (r.2 1))) := by
  have h6 := I.b6
  have inner : ∀ (k8 : Int32 → Int32 → Option Int32) (x4 z : Int32), f_R_passes_17 N a (iN n) r k8 N z x4 0 = k8 (cdR (r.2 1) a z) (x4 + 1) := fun k8 x4 z => by
    unfold cdR
    refine lp_run (F := fun fuel k z => f_R_passes_17 N a (iN n) r k8 fuel z x4 (iN k)) (f := cdP (r.2 1) a) (fin := fun z => k8 z (x4 + 1)) (n := cn (r.2 1) 6) (fun fuel z => ?_) (fun fuel k z hk => ?_) _ 0 z N (by omega) (by omega)
    · rw [f_R_passes_17, rlm6, ob, I.n6, if_pos (i_le_rfl _)]
    · rw [f_R_passes_17, rlm6, ob, I.n6, if_neg (iN_nle hk (by omega)), who_k (by omega), ob, whom_k (by omega), ob, iN_s, Int32.and_comm a, Int32.and_comm z]
      unfold cdP
      show (if cdT (r.2 1) k &&& a = 0 then (if cdT (r.2 1) k &&& z = 0 then _ else f_R_passes_17 N a (iN n) r k8 fuel (z ||| cdT (r.2 1) k) x4 (iN (k + 1))) else _) = _
      by_cases h1 : cdT (r.2 1) k &&& a = 0
      · rw [if_pos h1, if_pos h1]
        by_cases h2 : cdT (r.2 1) k &&& z = 0
        · rw [if_pos h2, if_pos h2]
        · rw [if_neg h2, if_neg h2]
      · rw [if_neg h1, if_neg h1]
  unfold f_R_passes
  rw [f_R_coldsNow_eq I hN, ob]
  refine lp_run (F := fun fuel k z => f_R_passes_8 N a (iN n) r fuel z (iN k)) (f := fun _ z => cdR (r.2 1) a z) (fin := fun z => some z) (n := n) (fun fuel z => ?_) (fun fuel k z hk => ?_) _ 0 _ N (by omega) (by omega)
  · rw [f_R_passes_8, if_pos (i_le_rfl _)]
  · rw [f_R_passes_8, if_neg (iN_nle hk (by omega)), inner, iN_s]
theorem op_colds (G : GS N x o ps ys M r) (hN : 20000 ≤ N) : Both N x o (f_L_colds N x a b o M) (f_R_colds N a b r) := by
  by_cases h : okI b 0 20
  · obtain ⟨n, -, h2, rfl⟩ := h
    refine both_ok (v := lp (fun _ z => cdR (r.2 1) a z) n 0 (cdS (r.2 1))) (G.th 0) (th0 r 0) ?_ ?_
    · unfold f_L_colds f_CT_colds
      rw [G.A.c, ob, show f_CT_needNumber (iN n) 0 20 M = some (.inl (), M) from needN_y (lo := 0) (hi := 20) (by omega) h2 (by decide), ob, sx_l, G.A.gN, ob, G.S.c0, ob, coldsAfter_eq G.S G.I G.R (by omega) h2, ob, ob, sx_l]
      rfl
    · unfold f_R_colds f_R_colds_16
      rw [show f_R_isIn (iN n) 0 20 = some 1 from isInI_y (lo := 0) (hi := 20) (by omega) h2 (by decide), ob, if_neg i1n, th0, if_pos i00, passes_eq (r := r_set r 0 0) G.I (by omega) h2, ob]
      rfl
  · refine both_ex (c := 1) (v := 0) (G.new.th 1) i1n (th0 r 1) ?_ ?_
    · unfold f_L_colds f_CT_colds
      rw [G.A.c, ob, show f_CT_needNumber b 0 20 M = some (.inr "java/lang/IllegalArgumentException", m_new M (0, 0)) from needN_n (lo := 0) (hi := 20) h (by decide) (by decide), ob, sx_r, ob, sx_r, if_pos rfl]
    · unfold f_R_colds f_R_colds_16
      rw [show f_R_isIn b 0 20 = some 0 from isInI_n (lo := 0) (hi := 20) h (by decide) (by decide), ob, if_pos rfl, th0, if_neg i10]
end Cd
