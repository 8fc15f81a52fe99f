section Fz
variable {N t c k o j n B ci : Nat} {M0 M K L : Mem} {v : Int32}
/-- c cells from t on by three functions of their places; the rest as in M0 -/
def Fz (M0 M : Mem) (t c : Nat) (kd : Nat → Nat × Nat) (iv : Nat → Nat → Int32) (rv : Nat → Nat → Option Nat) : Prop :=
  (m_sz M0 = t ∧ m_sz M = t + c) ∧ (∀ b, m_kd M b = if t ≤ b ∧ b < t + c then kd (b - t) else m_kd M0 b) ∧ (∀ b, m_iv M b = if t ≤ b ∧ b < t + c then iv (b - t) else m_iv M0 b) ∧ ∀ b, m_rv M b = if t ≤ b ∧ b < t + c then rv (b - t) else m_rv M0 b
def ap {α : Type} (f : Nat → α) (c : Nat) (v : α) : Nat → α := fun i => if i = c then v else f i
variable {kd : Nat → Nat × Nat} {iv : Nat → Nat → Int32} {rv : Nat → Nat → Option Nat}
theorem ap_new {α : Type} (m m0 : Nat → α) (f : Nat → α) (v : α) (h : ∀ b, m b = if t ≤ b ∧ b < t + c then f (b - t) else m0 b) (b : Nat) : (if b = t + c then v else m b) = if t ≤ b ∧ b < t + (c + 1) then ap f c v (b - t) else m0 b := by
  unfold ap
  by_cases hb : b = t + c
  · rw [if_pos hb, if_pos (by omega), if_pos (by omega)]
  · rw [if_neg hb, h]
    by_cases h2 : t ≤ b ∧ b < t + c
    · rw [if_pos h2, if_pos (by omega), if_neg (by omega)]
    · rw [if_neg h2, if_neg (by omega)]
theorem Fz.new (h : Fz M0 M t c kd iv rv) (q : Nat × Nat) : Fz M0 (m_new M q) t (c + 1) (ap kd c q) (ap iv c (fun _ => 0)) (ap rv c (fun _ => none)) := by
  obtain ⟨⟨h1, h2⟩, h3, h4, h5⟩ := h
  refine ⟨⟨h1, by rw [sz_new]; omega⟩, fun b => ?_, fun b => ?_, fun b => ?_⟩
  · rw [kd_new, h2]; exact ap_new _ _ _ _ h3 b
  · rw [iv_new, h2]; exact ap_new _ _ _ _ h4 b
  · rw [rv_new, h2]; exact ap_new _ _ _ _ h5 b
theorem ap_set {α : Type} (m m0 : Nat → Nat → α) (f : Nat → Nat → α) (v : α) (ho : o < c) (h : ∀ b, m b = if t ≤ b ∧ b < t + c then f (b - t) else m0 b) (b : Nat) : (fun i => if b = t + o ∧ i = j then v else m b i) = if t ≤ b ∧ b < t + c then ap f o (up1 (f o) j v) (b - t) else m0 b := by
  funext i
  unfold ap
  by_cases hb : b = t + o
  · rw [if_pos (show t ≤ b ∧ b < t + c by omega), if_pos (show b - t = o by omega), up1_at]
    by_cases hi : i = j
    · rw [if_pos ⟨hb, hi⟩, if_pos hi]
    · rw [if_neg (fun w => hi w.2), if_neg hi, h, if_pos (by omega), show b - t = o by omega]
  · rw [if_neg (fun w => hb w.1), h]
    by_cases h2 : t ≤ b ∧ b < t + c
    · rw [if_pos h2, if_pos h2, if_neg (by omega)]
    · rw [if_neg h2, if_neg h2]
theorem Fz.setI (h : Fz M0 M t c kd iv rv) (ho : o < c) (j : Nat) (v : Int32) : Fz M0 (m_setI M (t + o) j v) t c kd (ap iv o (up1 (iv o) j v)) rv :=
  ⟨h.1, h.2.1, fun b => ap_set _ _ _ v ho h.2.2.1 b, h.2.2.2⟩
theorem Fz.setR (h : Fz M0 M t c kd iv rv) (ho : o < c) (j : Nat) (v : Option Nat) : Fz M0 (m_setR M (t + o) j v) t c kd iv (ap rv o (up1 (rv o) j v)) :=
  ⟨h.1, h.2.1, h.2.2.1, fun b => ap_set _ _ _ v ho h.2.2.2 b⟩
theorem Fz.kk (h : Fz M0 M t c kd iv rv) (ho : o < c) : m_kd M (t + o) = kd o := by rw [h.2.1, if_pos (by omega), show t + o - t = o by omega]
theorem Fz.i (h : Fz M0 M t c kd iv rv) (ho : o < c) : m_iv M (t + o) = iv o := by rw [h.2.2.1, if_pos (by omega), show t + o - t = o by omega]
theorem Fz.r (h : Fz M0 M t c kd iv rv) (ho : o < c) : m_rv M (t + o) = rv o := by rw [h.2.2.2, if_pos (by omega), show t + o - t = o by omega]
theorem Fz.start (M : Mem) (q : Nat × Nat) : Fz M (m_new M q) (m_sz M) 1 (fun _ => q) (fun _ _ => 0) (fun _ _ => none) := by
  refine ⟨⟨rfl, rfl⟩, fun b => ?_, fun b => ?_, fun b => ?_⟩
  · rw [kd_new]
    by_cases h : b = m_sz M
    · rw [if_pos h, if_pos (by omega)]
    · rw [if_neg h, if_neg (by omega)]
  · rw [iv_new]
    by_cases h : b = m_sz M
    · rw [if_pos h, if_pos (by omega)]
    · rw [if_neg h, if_neg (by omega)]
  · rw [rv_new]
    by_cases h : b = m_sz M
    · rw [if_pos h, if_pos (by omega)]
    · rw [if_neg h, if_neg (by omega)]
theorem ap_comp {α : Type} (l m m0 : Nat → α) (f g : Nat → α) (h : ∀ b, m b = if t ≤ b ∧ b < t + c then f (b - t) else m0 b) (h2 : ∀ b, l b = if t + c ≤ b ∧ b < t + c + k then g (b - (t + c)) else m b) (b : Nat) : l b = if t ≤ b ∧ b < t + (c + k) then (fun i => if i < c then f i else g (i - c)) (b - t) else m0 b := by
  show l b = if t ≤ b ∧ b < t + (c + k) then (if b - t < c then f (b - t) else g (b - t - c)) else m0 b
  rw [h2]
  by_cases h3 : t + c ≤ b ∧ b < t + c + k
  · rw [if_pos h3, if_pos (by omega), if_neg (by omega), show b - t - c = b - (t + c) by omega]
  · rw [if_neg h3, h]
    by_cases h4 : t ≤ b ∧ b < t + c
    · rw [if_pos h4, if_pos (by omega), if_pos (by omega)]
    · rw [if_neg h4, if_neg (by omega)]
/-- cells made behind cells -/
theorem Fz.comp {kd2 : Nat → Nat × Nat} {iv2 : Nat → Nat → Int32} {rv2 : Nat → Nat → Option Nat} (h : Fz M0 M t c kd iv rv) (h2 : Fz M L (t + c) k kd2 iv2 rv2) : Fz M0 L t (c + k) (fun i => if i < c then kd i else kd2 (i - c)) (fun i => if i < c then iv i else iv2 (i - c)) (fun i => if i < c then rv i else rv2 (i - c)) :=
  ⟨⟨h.1.1, by have := h2.1.2; omega⟩, fun b => ap_comp _ _ _ _ _ h.2.1 h2.2.1 b, fun b => ap_comp _ _ _ _ _ h.2.2.1 h2.2.2.1 b, fun b => ap_comp _ _ _ _ _ h.2.2.2 h2.2.2.2 b⟩
/-! steps of a constructor -/
theorem fz_I {f : Nat × Mem → Option Mem} {Q : Mem → Prop} (h : Fz M0 M t c kd iv rv) (n : Nat) (hn : n ≤ B ∧ n < 2147483648) (g : ∀ K, Fz M0 K t (c + 1) (ap kd c (1, n)) (ap iv c (fun _ => 0)) (ap rv c (fun _ => none)) → ∃ L, f (t + c, K) = some L ∧ Q L) : ∃ L, (nwI M B (iN n)).bind f = some L ∧ Q L := by
  rw [nwI_k hn.1 hn.2, ob, h.1.2]
  exact g _ (h.new (1, n))
theorem fz_nR {f : Nat × Mem → Option Mem} {Q : Mem → Prop} {q : Nat} (h : Fz M0 M t c kd iv rv) (n : Nat) (hn : n ≤ B ∧ n < 2147483648) (g : ∀ K, Fz M0 K t (c + 1) (ap kd c (q, n)) (ap iv c (fun _ => 0)) (ap rv c (fun _ => none)) → ∃ L, f (t + c, K) = some L ∧ Q L) : ∃ L, (nwR M q B (iN n)).bind f = some L ∧ Q L := by
  have e : nwR M q B (iN n) = some (m_sz M, m_new M (q, n)) := by
    unfold nwR
    rw [if_pos ⟨iN_nn hn.2, by rw [iN_cl hn.2]; exact hn.1⟩, iN_cl hn.2]
  rw [e, ob, h.1.2]
  exact g _ (h.new (q, n))
theorem fz_R {f : Mem → Option Mem} {Q : Mem → Prop} {u : Nat} (o : Nat) (h : Fz M0 M t c kd iv rv) (ho : o < c ∧ (kd o).1 = 10 + ci) (g : ∀ K, Fz M0 K t c kd iv (ap rv o (up1 (rv o) j (some u))) → ∃ L, f K = some L ∧ Q L) : ∃ L, (pR M ci (t + o) j u).bind f = some L ∧ Q L := by
  rw [pR_k (ci := ci) (by rw [h.kk ho.1]; exact ho.2), ob]
  exact g _ (h.setR ho.1 j (some u))
theorem fz_V {f : Mem → Option Mem} {Q : Mem → Prop} (o : Nat) (h : Fz M0 M t c kd iv rv) (ho : o < c ∧ (kd o).1 = 10 + ci) (g : ∀ K, Fz M0 K t c kd (ap iv o (up1 (iv o) j v)) rv → ∃ L, f K = some L ∧ Q L) : ∃ L, (pI M ci (t + o) j v).bind f = some L ∧ Q L := by
  rw [pI_k (ci := ci) (by rw [h.kk ho.1]; exact ho.2), ob]
  exact g _ (h.setI ho.1 j v)
/-- manners, lands and logs as made -/
theorem manners_new (M : Mem) : ∃ L, f_Manners_init (m_sz M) (m_new M (14, 0)) = some L ∧ ∃ iv, Fz M L (m_sz M) 1 (fun _ => (14, 0)) iv (fun _ _ => none) ∧ iv 0 0 = 10 ∧ iv 0 1 = 2 ∧ iv 0 2 = 5 := by
  unfold f_Manners_init
  have h0 := Fz.start M (14, 0)
  generalize m_sz M = t at *
  refine fz_V 0 h0 ⟨by decide, rfl⟩ fun K1 h1 => ?_
  refine fz_V 0 h1 ⟨by decide, rfl⟩ fun K2 h2 => ?_
  refine fz_V 0 h2 ⟨by decide, rfl⟩ fun K3 h3 => ?_
  exact ⟨K3, rfl, _, h3, rfl, rfl, rfl⟩
theorem log_new (M : Mem) : ∃ L, f_Log_init (m_sz M) (m_new M (13, 0)) = some L ∧ ∃ kd iv rv, Fz M L (m_sz M) 2 kd iv rv ∧ (kd 0 = (13, 0) ∧ kd 1 = (1, 480)) ∧ (iv 0 0 = 0 ∧ iv 0 1 = 0) ∧ rv 0 2 = some (m_sz M + 1) := by
  unfold f_Log_init
  have h0 := Fz.start M (13, 0)
  generalize m_sz M = t at *
  refine fz_I h0 480 ⟨by decide, by decide⟩ fun K1 h1 => ?_
  refine fz_R 0 h1 ⟨by decide, rfl⟩ fun K2 h2 => ?_
  exact ⟨K2, rfl, _, _, _, h2, ⟨rfl, rfl⟩, ⟨rfl, rfl⟩, rfl⟩
theorem lands_new (M : Mem) : ∃ L, f_Lands_init (m_sz M) (m_new M (10, 0)) = some L ∧ ∃ kd iv rv, Fz M L (m_sz M) 5 kd iv rv ∧ (kd 0 = (10, 0) ∧ kd 1 = (14, 0) ∧ kd 2 = (1, 24) ∧ kd 3 = (1, 24) ∧ kd 4 = (1, 24)) ∧ (iv 0 1 = 0 ∧ iv 0 2 = 0 ∧ iv 1 0 = 10 ∧ iv 1 1 = 2 ∧ iv 1 2 = 5) ∧ (rv 0 0 = some (m_sz M + 1) ∧ rv 0 3 = some (m_sz M + 2) ∧ rv 0 4 = some (m_sz M + 3) ∧ rv 0 5 = some (m_sz M + 4)) := by
  unfold f_Lands_init
  have h0 := Fz.start M (10, 0)
  generalize m_sz M = t at *
  generalize m_new M (10, 0) = M1 at *
  obtain ⟨L, e, iv2, h1, i1, i2, i3⟩ := manners_new M1
  rw [e, ob]
  have es : m_sz M1 = t + 1 := h0.1.2
  rw [es] at h1 ⊢
  have h1 := h0.comp h1
  refine fz_R 0 h1 ⟨by decide, rfl⟩ fun K1 h1 => ?_
  refine fz_I h1 24 ⟨by decide, by decide⟩ fun K2 h2 => ?_
  refine fz_R 0 h2 ⟨by decide, rfl⟩ fun K3 h3 => ?_
  refine fz_I h3 24 ⟨by decide, by decide⟩ fun K4 h4 => ?_
  refine fz_R 0 h4 ⟨by decide, rfl⟩ fun K5 h5 => ?_
  refine fz_I h5 24 ⟨by decide, by decide⟩ fun K6 h6 => ?_
  refine fz_R 0 h6 ⟨by decide, rfl⟩ fun K7 h7 => ?_
  exact ⟨K7, rfl, _, _, _, h7, ⟨rfl, rfl, rfl, rfl, rfl⟩, ⟨rfl, rfl, i1, i2, i3⟩, rfl, rfl, rfl, rfl⟩
end Fz
