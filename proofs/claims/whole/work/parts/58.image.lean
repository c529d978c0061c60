/-! Call: image, of the model. -/
def vw_I (V : vw) (A hi : Nat → Int32) : vw := (A, hi, V.2.2)
def sp_imA (A : Nat → Int32) (t j : Nat) : Nat → Int32 := fun k => if 1088 * (t + 1) ≤ k ∧ k < 1088 * (t + 1) + j then A (k - 1088 * (t + 1)) else A k
def V_image (V : vw) (x : Int32) : vw := cond (bn x 2) (vw_I V (sp_imA (vA V) x.toNatClampNeg 1088) (mx_upT (vHi V) x.toNatClampNeg 1)) V
def v_image (x : Int32) : Int32 := cond (bn x 2) 0 (-2)
theorem sp_imA_eq (A : Nat → Int32) (t j : Nat) : sp_eq A (sp_imA A t j) := fun k hk => by unfold sp_imA; rw [if_neg (by omega)]
theorem sp_imA_self (A : Nat → Int32) (t : Nat) : sp_eq A (sp_im (sp_imA A t 1088) t) := fun k hk => by
  unfold sp_im sp_imA
  rw [if_pos (by omega), show 1088 * (t + 1) + k - 1088 * (t + 1) = k by omega]
theorem sp_imA_o (A : Nat → Int32) (t u : Nat) (h : u ≠ t) : sp_eq (sp_im A u) (sp_im (sp_imA A t 1088) u) := fun k hk => by
  unfold sp_im sp_imA
  rw [if_neg (by
    rcases Nat.lt_or_ge u t with c | c
    · have : 1088 * (u + 1) + 1088 ≤ 1088 * (t + 1) := by omega
      omega
    · have : 1088 * (t + 1) + 1088 ≤ 1088 * (u + 1) := by omega
      omega)]
theorem im_image {V : vw} {x : Int32} (m : InvM V) : InvM (V_image V x) := by
  unfold V_image
  cases a : bn x 2 with
  | false => exact m
  | true =>
    obtain ⟨t, ht, rfl⟩ := bnT (by omega) a
    rw [nI_clamp (by omega)]
    have mi : ∀ u, u < 2 → m_img (vA V) (vHi V) u → m_img (sp_imA (vA V) t 1088) (mx_upT (vHi V) t 1) u := by
      intro u hu q
      unfold m_img mx_upT
      by_cases c : u = t
      · subst c
        rw [if_pos rfl]
        exact Or.inr ⟨rfl, m.1.1.ce (sp_imA_self _ _)⟩
      · rw [if_neg c]
        rcases q with q | ⟨q1, q2⟩
        · exact Or.inl q
        · exact Or.inr ⟨q1, q2.ce (sp_imA_o _ _ _ c)⟩
    exact ⟨⟨m.1.1.ce (sp_imA_eq _ _ _), m.1.2.ce (sp_imA_eq _ _ _) m.p8⟩, ⟨mi 0 (by omega) m.2.1.1, mi 1 (by omega) m.2.1.2⟩, m.2.2⟩
theorem cm302 {E : mv_E} {D k n : Nat} {h : mv_H} {Q : mv_Q} {V : vw} {x : Int32} (e : vw_of h = V) (H : ∀ h', fM (V_image V x) h h' → Q (some (.int (v_image x))) h') : mv_VE E (D + 1) k n 302 0 [some (.ref 148), some (.int x), none] [] h Q := by
  have f0 := fM.of e
  apply sg302_0
  unfold V_image v_image at H
  refine mx_cdb _ (bn_w 1 (by omega) rfl) (fun a => ?_) (fun a => ?_)
  · have a : bn x 2 = true := a
    rw [a] at H
    obtain ⟨t, ht, rfl⟩ := bnT (by omega) a
    rw [nI_clamp (by omega)] at H
    refine mx_loop (P := fun j => ∀ h', fM (vw_A V (sp_imA (vA V) t j)) h h' → mv_VE E (D + 1) k n 302 20 [some (.ref 148), some (.int (nI t)), some (.int (nI j))] [] h' Q) 1088 ?_ ?_ _ ((show fM (vw_A V (vA V)) h (mv_sI h 148 0 0) from f0).eqA (fun k => by unfold sp_imA; rw [if_neg (by omega)]))
    · intro h' f'
      apply sg302_20
      rw [nI_clamp (n := t) (by omega)]
      refine mx_ltF 1088 1088 (Nat.le_refl _) (mv_gdI (mx_inT t ht (by omega)) (H _ ⟨f'.1.tr (mx_fr.sI (S := mx_sM) rfl).z, ?_⟩)) (by omega)
      have e1 : mv_I (mv_sI h' 150 t (1 &&& 1)) 150 = mx_upT (vHi V) t 1 := by
        funext j
        have e0 : mv_I h' 150 = vHi V := by rw [show vHi V = vHi (vw_A V (sp_imA (vA V) t 1088)) from rfl, ← f'.2]; rfl
        rw [mx_upI, e0]
        unfold mx_upT
        by_cases q : j = t
        · rw [if_pos ⟨rfl, q⟩, if_pos q]; rfl
        · rw [if_neg (fun c => q c.2), if_neg q]
      have e2 : vw_of (mv_sI h' 150 t (1 &&& 1)) = ((vw_of h').1, mv_I (mv_sI h' 150 t (1 &&& 1)) 150, (vw_of h').2.2) := rfl
      rw [e2, e1, f'.2]
      rfl
    · intro j hj ih h' f'
      have ev : mv_I h' 149 j = vA V j := by
        rw [f'.A]
        show sp_imA (vA V) t j j = _
        unfold sp_imA
        rw [if_neg (by omega)]
      apply sg302_20
      rw [nI_1, nI_1, show (1088 : Int32) * nI (t + 1) = nI (1088 * (t + 1)) from pk_mul 1088 _, nI_add, nI_clamp (n := 1088 * (t + 1) + j) (by omega), nI_clamp (n := j) (by omega), ev]
      refine mx_ltT j 1088 hj (mv_gdI (mx_inT j (by omega) (by omega)) (mv_gdI (mx_inT (1088 * (t + 1) + j) (by omega) (by omega)) ?_)) (by omega)
      refine ih _ ((f'.at).eqA (fun k => ?_))
      show mx_upA (sp_imA (vA V) t j) _ _ k = sp_imA (vA V) t (j + 1) k
      unfold mx_upA sp_imA
      by_cases c : k = 1088 * (t + 1) + j
      · rw [if_pos c, if_pos (by omega), c, show 1088 * (t + 1) + j - 1088 * (t + 1) = j by omega]
      · rw [if_neg c]
        by_cases c2 : 1088 * (t + 1) ≤ k ∧ k < 1088 * (t + 1) + j
        · rw [if_pos c2, if_pos (by omega)]
        · rw [if_neg c2, if_neg (by omega)]
  · have a : bn x 2 = false := a
    rw [a] at H; exact H _ f0
