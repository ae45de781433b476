/-! truncate: the indirect block, the words behind the cut, the law's case -/
theorem q_iiN {D : Nat → Int32} {b : Nat} (hb : b < 29) : ∀ d w, w + d = 8 → ∀ f, d < f → ∃ y, jv_fx (f_C_isIndirectEmpty_23 D (nI b)) f (nI w) = some y ∧ ((y = 0 ∧ ¬ ∀ k, w ≤ k → k < 8 → D (b * 8 + k) = 0) ∨ (y = 1 ∧ ∀ k, w ≤ k → k < 8 → D (b * 8 + k) = 0)) := by
  intro d
  induction d with
  | zero =>
    intro w hw f hf
    obtain ⟨f, rfl⟩ : ∃ f', f = f' + 1 := ⟨f - 1, by omega⟩
    obtain rfl : w = 8 := by omega
    exact ⟨1, rfl, Or.inr ⟨rfl, fun k h1 h2 => by omega⟩⟩
  | succ d ih =>
    intro w hw f hf
    obtain ⟨f, rfl⟩ : ∃ f', f = f' + 1 := ⟨f - 1, by omega⟩
    have h8 : ((8 : Int32) ≤ nI w) = (8 ≤ w) := q_le (a := 8) (by omega) (by omega)
    obtain ⟨y, y1, y2⟩ := ih (w + 1) (by omega) f (by omega)
    rw [jv_fx_s]
    generalize jv_fx (f_C_isIndirectEmpty_23 D (nI b)) f = kk at y1 ⊢
    unfold f_C_isIndirectEmpty_23
    simp only [h8, if_neg (show ¬ 8 ≤ w by omega), q_get (D := D) (b := b) (w := w) (by omega), Option.bind_some, nI_1, y1]
    by_cases hz : D (b * 8 + w) = 0
    · rw [if_pos hz]
      refine ⟨y, rfl, ?_⟩
      have hh : (∀ k, w ≤ k → k < 8 → D (b * 8 + k) = 0) ↔ ∀ k, w + 1 ≤ k → k < 8 → D (b * 8 + k) = 0 := ⟨fun h k h1 h2 => h k (by omega) h2, fun h k h1 h2 => by
        by_cases hk : k = w
        · rw [hk]; exact hz
        · exact h k (by omega) h2⟩
      rw [hh]
      exact y2
    · rw [if_neg hz]
      exact ⟨0, rfl, Or.inl ⟨rfl, fun h => hz (h w (Nat.le_refl _) (by omega))⟩⟩
section
variable {mar fu t : Int32} {mLb mUs mWr mDk : Nat → Int32} {a i m : Nat}
theorem q_tl1 (hi : i < 8) (hm : m ≤ 80) {fr : Int32} {lf : Nat} {D C : Nat → Int32} (e : eqd D C) (P : PI D) (hl : lfI D i 10 lf) : ∃ fr2 D2 C2, f_C_cut_13 (nI i) (nI m) (fun _ => none) (fr, nI 10, D) = ((f_C_zeroBehind (nI i) (nI m) D2).bind fun x9 => (f_D_putInodeWord (nI i) (3 : Int32) (nI m) x9).bind fun x11 => some (fr2, x11)) ∧
    f_M_truncate_129 mar mLb (nI m) (nI a) (nI i) t fu mUs mWr mDk (fun _ => none) (fr, nI lf, nI 10, C) = f_M_truncate_254 mar mLb (nI m) (nI a) (nI i) fr2 (nI (if 10 ≤ m / 8 then 9 else m / 8)) (nI i) t fu mUs mWr mDk C2 ∧ eqd D2 C2 ∧ PI D2 ∧ kpT D D2 := by
  have ed : nI m / (8 : Int32) = nI (m / 8) := q_div (b := 8) (by omega) (by omega) (by omega)
  have h10 : ((10 : Int32) ≤ nI (m / 8)) = (10 ≤ m / 8) := q_le (a := 10) (by omega) (by omega)
  have hlf : (nI lf = 0) = (lf = 0) := q_eq (b := 0) (by have := hl.1; omega) (by omega)
  have fin : ∀ (fr2 : Int32) (C2 : Nat → Int32), (if 10 ≤ m / 8 then f_M_truncate_254 mar mLb (nI m) (nI a) (nI i) fr2 (9 : Int32) (nI i) t fu mUs mWr mDk C2 else f_M_truncate_254 mar mLb (nI m) (nI a) (nI i) fr2 (nI (m / 8)) (nI i) t fu mUs mWr mDk C2) = f_M_truncate_254 mar mLb (nI m) (nI a) (nI i) fr2 (nI (if 10 ≤ m / 8 then 9 else m / 8)) (nI i) t fu mUs mWr mDk C2 := fun fr2 C2 => by
    by_cases h : 10 ≤ m / 8
    · rw [if_pos h, if_pos h]; rfl
    · rw [if_neg h, if_neg h]
  obtain ⟨q, q1, q2⟩ := P.pb.ind hi
  have hl6 : isLoc D (8 + 8 * i + 6) := Or.inl ⟨i, 6, hi, by omega, by omega, rfl⟩
  have cq : C (8 + 8 * i + 6) = nI q := by rw [← e _ (by omega)]; exact q2
  have gi : f_D_inodeWord D (nI i) (6 : Int32) = some (nI q) := by rw [show (6 : Int32) = nI 6 from rfl, q_iw hi (by omega), q2]
  by_cases hq : q = 0
  · subst hq
    have hz : lf = 0 := hl.2.mpr (fun j h1 h2 l h => absurd (h.ne h1 q2) id)
    have ie : f_C_isIndirectEmpty D (nI i) = some 0 := by
      unfold f_C_isIndirectEmpty f_C_isIndirectEmpty_0
      rw [gi]
      rfl
    refine ⟨fr, D, C, ?_, ?_, e, P, fun _ _ _ _ => rfl⟩
    · unfold f_C_cut_13
      simp only [show ((10 : Int32) ≤ nI 10) = True by decide, if_true, ie, Option.bind_some]
    · unfold f_M_truncate_129
      simp only [show ((10 : Int32) ≤ nI 10) = True by decide, if_true, hlf, if_pos hz, show (6 : Int32) = nI 6 from rfl, e_8i, q_mr0 (show 8 + 8 * i + 6 < 232 by omega) cq, Option.bind_some, ed, h10, Int32.add_zero, fin]
  · obtain ⟨y, y1, y2⟩ := q_iiN (D := D) (b := 8 + q) (by omega) 8 0 rfl 300 (by omega)
    have ie : f_C_isIndirectEmpty D (nI i) = some y := by
      unfold f_C_isIndirectEmpty f_C_isIndirectEmpty_0
      rw [gi, Option.bind_some, q_bb (by omega) q1, Option.bind_some, if_neg (fun z => by rw [nI_m1 (by omega)] at z; exact z)]
      exact y1
    have hZ : Zk D i 10 ↔ ∀ k, 0 ≤ k → k < 8 → D ((8 + q) * 8 + k) = 0 := by
      constructor
      · intro z k _ hk
        exact z (k + 2) (by omega) (by omega) _ (Or.inr ⟨by omega, q, by omega, q1, q2, by omega⟩)
      · intro z j h1 h2 l h
        rcases h with ⟨g1, g2⟩ | ⟨g1, q', g2, g3, g4, g5⟩
        · omega
        · have : q' = q := (nI_eq (by omega) (by omega)).mp (g4.symm.trans q2)
          subst this
          have := z (j - 2) (by omega) (by omega)
          rw [show (8 + q') * 8 + (j - 2) = l by omega] at this
          exact this
    rcases y2 with ⟨rfl, y2⟩ | ⟨rfl, y2⟩
    · have hz : ¬ lf = 0 := fun z => y2 (hZ.mp (hl.2.mp z))
      refine ⟨fr, D, C, ?_, ?_, e, P, fun _ _ _ _ => rfl⟩
      · unfold f_C_cut_13
        simp only [show ((10 : Int32) ≤ nI 10) = True by decide, if_true, ie, Option.bind_some]
      · unfold f_M_truncate_129
        simp only [show ((10 : Int32) ≤ nI 10) = True by decide, if_true, hlf, if_neg hz, ed, h10, fin]
    · have hz : lf = 0 := hl.2.mpr (hZ.mpr y2)
      have hd : f_C_dropPointer ((1 : Int32) + nI i) (6 : Int32) D = some (1, upd (upd D 0 (clr (D 0) q)) (8 + 8 * i + 6) 0) := by
        rw [show (1 : Int32) + nI i = nI (1 + i) from nI_add 1 i, show (6 : Int32) = nI 6 from rfl, q_dp1 (h := 1 + i) (w := 6) (p := q) (by omega) (by rw [show (1 + i) * 8 + 6 = 8 + 8 * i + 6 by omega]; exact q2) (by omega) q1, show (1 + i) * 8 + 6 = 8 + 8 * i + 6 by omega]
      refine ⟨fr + 1, upd (upd D 0 (clr (D 0) q)) (8 + 8 * i + 6) 0, upd (upd C 0 (clr (C 0) q)) (8 + 8 * i + 6) 0, ?_, ?_, ?_, P.rel hl6 q2 (by omega) q1, fun j w hj hw => ?_⟩
      · unfold f_C_cut_13
        simp only [show ((10 : Int32) ≤ nI 10) = True by decide, if_true, ie, Option.bind_some, p10, if_false, hd]
      · unfold f_M_truncate_129
        simp only [show ((10 : Int32) ≤ nI 10) = True by decide, if_true, hlf, if_pos hz, show (6 : Int32) = nI 6 from rfl, e_8i, q_mr1 (show 8 + 8 * i + 6 < 232 by omega) cq (show 1 ≤ q by omega) q1, Option.bind_some, ed, h10, fin]
      · rw [← e 0 (by omega)]
        exact (e.upd 0 _).upd _ _
      · rw [q_updN (by omega), q_updN (by omega)]
theorem q_303 {cut p : Nat} (hc : cut < 232) (h1 : 1 ≤ p) (h2 : p ≤ 20) (hne : ∀ j, j < 8 → cut ≠ 64 + 8 * p + j) {fr : Int32} : ∀ d w, w + d = 8 → ∀ f, d < f → ∀ C : Nat → Int32, C cut = nI p → ∃ C', jv_fx (f_M_truncate_303 mar mLb (nI m) (nI a) (nI i) fr (nI cut) (1 : Int32) t fu mUs mWr mDk) f (nI w, C) = f_M_truncate_343 mar mLb (nI m) (nI a) (nI i) fr t fu mUs mWr mDk C' ∧ ∀ x, C' x = if 64 + 8 * p + w ≤ x ∧ x < 64 + 8 * p + 8 then 0 else C x := by
  intro d
  induction d with
  | zero =>
    intro w hw f hf C hC
    obtain ⟨f, rfl⟩ : ∃ f', f = f' + 1 := ⟨f - 1, by omega⟩
    obtain rfl : w = 8 := by omega
    refine ⟨C, ?_, fun x => by rw [if_neg (by omega)]⟩
    rw [jv_fx_s]
    unfold f_M_truncate_303
    simp only [show ((8 : Int32) ≤ nI 8) = True by decide, if_true]
  | succ d ih =>
    intro w hw f hf C hC
    obtain ⟨f, rfl⟩ : ∃ f', f = f' + 1 := ⟨f - 1, by omega⟩
    have h8 : ((8 : Int32) ≤ nI w) = (8 ≤ w) := q_le (a := 8) (by omega) (by omega)
    obtain ⟨C', c1, c2⟩ := ih (w + 1) (by omega) f (by omega) (upd C (64 + 8 * p + w) 0) (by rw [q_updN (hne w (by omega))]; exact hC)
    refine ⟨C', ?_, fun x => ?_⟩
    · rw [← c1, jv_fx_s]
      generalize jv_fx (f_M_truncate_303 mar mLb (nI m) (nI a) (nI i) fr (nI cut) (1 : Int32) t fu mUs mWr mDk) f = kk
      unfold f_M_truncate_303
      simp only [h8, if_neg (show ¬ 8 ≤ w by omega), p10, if_false, q_ga (f := C) hc (show 232 < 2 ^ 31 by omega), hC, Option.bind_some, e_64, q_sa (f := C) (n := 232) (k := 64 + 8 * p + w) (by omega) (by omega), nI_1]
    · rw [c2 x]
      by_cases h : 64 + 8 * p + (w + 1) ≤ x ∧ x < 64 + 8 * p + 8
      · rw [if_pos h, if_pos (by omega)]
      · rw [if_neg h]
        by_cases h3 : x = 64 + 8 * p + w
        · subst h3
          rw [q_updS, if_pos (by omega)]
        · rw [q_updN h3, if_neg (by omega)]
theorem q_3030 {fr w cut : Int32} {C : Nat → Int32} : jv_fx (f_M_truncate_303 mar mLb (nI m) (nI a) (nI i) fr cut (0 : Int32) t fu mUs mWr mDk) 300 (w, C) = f_M_truncate_343 mar mLb (nI m) (nI a) (nI i) fr t fu mUs mWr mDk C := by
  rw [show (300 : Nat) = 299 + 1 from rfl, jv_fx_s]
  unfold f_M_truncate_303
  simp only [if_true, ite_self]
theorem q_tl2 (hi : i < 8) (hm : m ≤ 80) {fr : Int32} {D C : Nat → Int32} (e : eqd D C) (P : PI D) : ∃ D3 C3, f_C_zeroBehind (nI i) (nI m) D = some D3 ∧ f_M_truncate_254 mar mLb (nI m) (nI a) (nI i) fr (nI (if 10 ≤ m / 8 then 9 else m / 8)) (nI i) t fu mUs mWr mDk C = f_M_truncate_343 mar mLb (nI m) (nI a) (nI i) fr t fu mUs mWr mDk C3 ∧ eqd D3 C3 ∧ PI D3 ∧ kpT D D3 := by
  have ed : nI m / (8 : Int32) = nI (m / 8) := q_div (b := 8) (by omega) (by omega) (by omega)
  have em : nI m - nI m / (8 : Int32) * (8 : Int32) = nI (m % 8) := q_mod (b := 8) (by omega) (by omega) (by omega)
  rw [ed] at em
  have hz : (nI (m % 8) = 0) = (m % 8 = 0) := q_eq (b := 0) (by omega) (by omega)
  have hz2 : (nI (m % 8) ≤ 0) = (m % 8 ≤ 0) := q_le (b := 0) (by omega) (by omega)
  unfold f_C_zeroBehind f_C_zeroBehind_0 f_M_truncate_254
  simp only [ed, em, hz, hz2]
  by_cases h0 : m % 8 = 0
  · have hk : (if 10 ≤ m / 8 then 9 else m / 8) < 10 := by
      by_cases h : 10 ≤ m / 8
      · rw [if_pos h]; omega
      · rw [if_neg h]; omega
    have key : ∃ w, f_M_pointer C (nI i) (nI (if 10 ≤ m / 8 then 9 else m / 8)) = some w := by
      rcases q_mp (P.congr e).pb hi hk with ⟨b1, b2, b3⟩ | ⟨l, b1, b2, b3⟩
      · exact ⟨_, b3⟩
      · exact ⟨_, b3⟩
    obtain ⟨w, hw⟩ := key
    refine ⟨D, C, ?_, ?_, e, P, fun _ _ _ _ => rfl⟩
    · rw [if_pos h0]
    · rw [hw, Option.bind_some, if_pos (by omega), q_3030]
  · rw [if_neg (show ¬ 10 ≤ m / 8 by omega), if_neg h0]
    rcases q_pt P.pb e hi (show m / 8 < 10 by omega) with ⟨-, -, t1, t2⟩ | ⟨l, p, t1, t2, t3, t4, t5, t6⟩
    · refine ⟨D, C, ?_, ?_, e, P, fun _ _ _ _ => rfl⟩
      · rw [t1]; rfl
      · rw [t2, Option.bind_some, if_neg (by omega), if_pos (by decide), q_3030]
    · have cl : C l = nI p := by rw [← e l t2]; exact t4
      have hp0 : (nI p ≤ 0) = (p ≤ 0) := q_le (b := 0) (by omega) (by omega)
      unfold f_M_truncate_286
      by_cases hp : p = 0
      · subst hp
        refine ⟨D, C, ?_, ?_, e, P, fun _ _ _ _ => rfl⟩
        · rw [t5]; rfl
        · rw [t6, Option.bind_some, if_neg (by omega), if_neg (nI_pos (by omega)), if_neg (nI_pos (by omega)), q_ga t2 (by omega), cl, Option.bind_some, if_pos (by decide), q_3030]
      · obtain ⟨D3, d1, d2⟩ := q_zf (b := 8 + p) (w := m % 8) (by omega) (by omega) D
        obtain ⟨C3, c1, c2⟩ := q_303 (mar := mar) (fu := fu) (t := t) (mLb := mLb) (mUs := mUs) (mWr := mWr) (mDk := mDk) (a := a) (i := i) (m := m) t2 (p := p) (by omega) t3 (fun j hj z => P.nloc hi (by omega) t1 t4 (by omega) t3 hj (by rw [← z]; exact t1.isLoc hi (by omega))) (fr := fr) (8 - m % 8) (m % 8) (by omega) 300 (by omega) C cl
        refine ⟨D3, C3, ?_, ?_, fun w hw => ?_, P.gen (fun x => ?_), fun j w hj hw => ?_⟩
        · rw [t5, Option.bind_some, q_bb (by omega) t3, Option.bind_some, if_neg (fun z => by rw [nI_m1 (by omega)] at z; exact z), d1]
          rfl
        · rw [t6, Option.bind_some, if_neg (by omega), if_neg (nI_pos (by omega)), if_neg (nI_pos (by omega)), q_ga t2 (by omega), cl, Option.bind_some, if_neg (by rw [hp0]; omega), ed, em, c1]
        · rw [d2 w, c2 w]
          by_cases h : (8 + p) * 8 + m % 8 ≤ w ∧ w < (8 + p) * 8 + 8
          · rw [if_pos h, if_pos (by omega)]
          · rw [if_neg h, if_neg (by omega)]; exact e w hw
        · rw [d2 x]
          by_cases h : (8 + p) * 8 + m % 8 ≤ x ∧ x < (8 + p) * 8 + 8
          · right
            refine ⟨by omega, fun j hj => by omega, ?_⟩
            have := P.nloc hi (show m / 8 < 10 by omega) t1 t4 (by omega) t3 (j := x - (64 + 8 * p)) (by omega)
            rw [show 64 + 8 * p + (x - (64 + 8 * p)) = x by omega] at this
            exact this
          · left; rw [if_neg h]
        · rw [d2, if_neg (by omega)]
theorem q_piw {D : Nat → Int32} {j w : Nat} {v : Int32} (hj : j < 8) (hw : w < 8) : f_D_putInodeWord (nI j) (nI w) v D = some (upd D (8 + 8 * j + w) v) := by
  unfold f_D_putInodeWord f_D_putInodeWord_0
  rw [show (1 : Int32) + nI j = nI (1 + j) from nI_add 1 j, show nI (1 + j) * (8 : Int32) = nI ((1 + j) * 8) from q_mul (1 + j) 8, nI_add, q_sa (by omega) (by omega), show (1 + j) * 8 + w = 8 + 8 * j + w by omega]
  rfl
theorem kpT.ti {D D' : Nat → Int32} (h : kpT D D') (T : TI D) : TI D' := T.congr (fun i w hi hw => (h i w hi hw).symm)
theorem q_cut (hi : i < 8) (hm : m ≤ 80) {D C : Nat → Int32} (e : eqd D C) (P : PI D) (T : TI D) : ∃ fr D' C', f_C_cut (nI i) (nI m) D = some (fr, D') ∧ jv_fx (f_M_truncate_129 mar mLb (nI m) (nI a) (nI i) t fu mUs mWr mDk) 300 (0, 0, 0, C) = ((f_M_finish C' (nI a) fr fu mUs mWr mDk).bind fun x27 => some (x27.1, t, x27.2.1, x27.2.2.1, x27.2.2.2.1, x27.2.2.2.2, C')) ∧ eqd D' C' ∧ PI D' ∧ TI D' := by
  have hs : (nI m + (8 : Int32) - (1 : Int32)) / (8 : Int32) = nI ((m + 7) / 8) := by
    rw [show (8 : Int32) = nI 8 from rfl, nI_add, show (1 : Int32) = nI 1 from rfl, q_sub (by omega) (by omega), q_div (by omega) (by omega) (by omega), show m + 8 - 1 = m + 7 by omega]
  obtain ⟨f', lf', l0, l1, l2⟩ := q_tr1 (mar := mar) (fu := fu) (t := t) (mLb := mLb) (mUs := mUs) (mWr := mWr) (mDk := mDk) (a := a) (i := i) (m := m) (P.congr e).pb hi hm (fr := 0) ((m + 7) / 8) 0 (by omega) 300 (by omega) 0 ⟨by omega, ⟨fun _ j h1 h2 => by omega, fun _ => rfl⟩⟩
  have l1' : lfI D i ((m + 7) / 8) lf' := by
    refine ⟨l1.1, l1.2.trans ⟨fun z j h1 h2 l h => ?_, fun z j h1 h2 l h => ?_⟩⟩
    · rw [e l (h.isLoc hi (by omega)).lt]; exact z j h1 h2 l (h.congr e hi)
    · have h' := h.congr e.symm hi
      rw [← e l (h'.isLoc hi (by omega)).lt]; exact z j h1 h2 l h'
  obtain ⟨fr1, lf1, D1, C1, a1, a2, a3, a4, a5, a6⟩ := q_tr2 (mar := mar) (fu := fu) (t := t) (mLb := mLb) (mUs := mUs) (mWr := mWr) (mDk := mDk) (a := a) (i := i) (m := m) hi hm (10 - (m + 7) / 8) ((m + 7) / 8) (by omega) (Nat.le_refl _) 300 f' (by omega) (by omega) 0 lf' D C e P l1'
  obtain ⟨fr2, D2, C2, b1, b2, b3, b4, b5⟩ := q_tl1 (mar := mar) (fu := fu) (t := t) (mLb := mLb) (mUs := mUs) (mWr := mWr) (mDk := mDk) (a := a) (i := i) (m := m) hi hm (fr := fr1) a3 a4 a5
  obtain ⟨D3, C3, c1, c2, c3, c4, c5⟩ := q_tl2 (mar := mar) (fu := fu) (t := t) (mLb := mLb) (mUs := mUs) (mWr := mWr) (mDk := mDk) (a := a) (i := i) (m := m) hi hm (fr := fr2) b3 b4
  refine ⟨fr2, upd D3 (8 + 8 * i + 3) (nI m), upd C3 (8 + 8 * i + 3) (nI m), ?_, ?_, c3.upd _ _, c4.siz hi hm, ?_⟩
  · unfold f_C_cut f_C_cut_0
    rw [hs, a1, b1, c1, Option.bind_some, show (3 : Int32) = nI 3 from rfl, q_piw hi (by omega)]
    rfl
  · rw [show ((0 : Int32), (0 : Int32), (0 : Int32), C) = ((0 : Int32), nI 0, nI 0, C) from rfl, l2, a2, b2, c2]
    unfold f_M_truncate_343
    rw [show (3 : Int32) = nI 3 from rfl, e_8i, q_sa (by omega) (by omega), Option.bind_some]
  · have h1 := c5.ti (b5.ti (a6.ti T))
    exact h1.congr (fun j w hj hw => by rw [q_updN (by omega)])
end
theorem pj_7 (n : Nat) (vC : Nat → Int32) (vat : Int32) (ars : Nat → jv_ar) (vO : Nat → Int64) (m1 : Int32) (mLb mCl mUs mWr mDk mCp : Nat → Int32) (p1 p2 p3 : Int32) (J : Jd n vat ars mLb mUs mWr mDk) : jR n vC mLb mCl (s_7 (n, vC, vat, ars) vO (m1, nI n, vat, mLb, mCl, mUs, mWr, mDk, mCp) p1 p2 p3) := by
  have hn := J.hn
  have hR : ∀ (e : Nat), 1 ≤ e → e ≤ 4 → f_M_truncate_21 (nI n) mLb p1 p2 p3 (nI e) m1 vat mUs mWr mDk mCp = some (0, nI e, vat, mUs, mWr, mDk, mCp) := fun e h1 h2 => by
    unfold f_M_truncate_21 f_M_truncate_58 f_M_truncate_102
    simp only [eq_false (nI_ne0 (n := e) (by omega) (by omega)), if_false, eq_false (nI_nle (n := e) (by omega) (by omega))]
  have hR1 : f_M_truncate_21 (nI n) mLb p1 p2 p3 1 m1 vat mUs mWr mDk mCp = some (0, 1, vat, mUs, mWr, mDk, mCp) := hR 1 (by omega) (by omega)
  have hR2 : f_M_truncate_21 (nI n) mLb p1 p2 p3 2 m1 vat mUs mWr mDk mCp = some (0, 2, vat, mUs, mWr, mDk, mCp) := hR 2 (by omega) (by omega)
  have hR3 : f_M_truncate_21 (nI n) mLb p1 p2 p3 3 m1 vat mUs mWr mDk mCp = some (0, 3, vat, mUs, mWr, mDk, mCp) := hR 3 (by omega) (by omega)
  have hX : ∀ q k A B, f_V_truncate_29 n p2 q 0 k A B = some (.inl 1) := fun q k A B => rfl
  unfold s_7 l_truncate f_V_truncate f_V_truncate_0 f_M_truncate f_M_truncate_0 f_M_thrown f_M_thrown_0
  rcases q_areaO hn J.us p1 with ⟨h1, h2⟩ | ⟨b, s, hb, hs, rfl, h1, h2, h3⟩
  · simp only [h1, Option.bind_some, jv_se, if_true, q_rf0 h2, hR1, ite_self, p10, if_false]
    exact ⟨_, _, _, _, _, _, _, _, rfl, J⟩
  · simp only [h1, Option.bind_some, jv_se, if_pos hb]
    rcases q_path2 p2 with ⟨g1, g2⟩ | ⟨r, hr, rfl, g1, g2⟩
    · simp only [g1, Option.bind_some, if_true, hX, q_rf1 h2 g2, hR1, ite_self, p10, if_false]
      exact ⟨_, _, _, _, _, _, _, _, rfl, J⟩
    · simp only [g1, Option.bind_some, p10, if_false, hX, hR1]
      rcases q_nn p3 with hp | ⟨m, hk, rfl⟩
      · simp only [if_pos hp, Option.bind_some, if_true, p10, if_false]
        exact ⟨_, _, _, _, _, _, _, _, rfl, J⟩
      · have c1 : ((80 : Int32) < nI m) = (80 < m) := q_lt (a := 80) (by omega) hk
        have c2 : (nI m ≤ (80 : Int32)) = (m ≤ 80) := q_le (b := 80) hk (by omega)
        simp only [q_lt0 hk, if_false, c1, c2]
        by_cases hm : m ≤ 80
        · simp only [if_neg (show ¬ 80 < m by omega), if_pos hm]
          unfold f_V_truncate_29
          simp only [q_dm1, Option.bind_some, jv_se]
          rcases q_own J.sk hb hs hr h2 g2 with ⟨o1, o2⟩ | ⟨o1, o2⟩ | ⟨i, hi, fi, o1, o2, o3, o4⟩
          · simp only [o1, o2, Option.bind_some, hR2]
            exact ⟨_, _, _, _, _, _, _, _, rfl, J⟩
          · simp only [o1, o2, Option.bind_some, hR3]
            exact ⟨_, _, _, _, _, _, _, _, rfl, J⟩
          · have T := J.ti b hb
            have P := J.pi b hb
            obtain ⟨k1, -, -, w0, -, -, w3⟩ := q_pw (a := b) (by omega) (J.dr b hb) hi
            obtain ⟨z, z1, z2⟩ := P.size i hi
            unfold f_V_demandFile f_V_demandFile_0 f_M_truncate_21 f_M_truncate_58
            rw [z2] at w3
            simp only [o1, o2, Option.bind_some, if_true, h3, o3, w0, w3, k1, q_sz hi, z2, q_le hk (show z < 2 ^ 31 by omega)]
            have h4 : f_M_truncate_102 (nI n) mLb (nI m) (nI b) (nI i) 4 0 vat mUs mWr mDk mCp = some (0, 4, vat, mUs, mWr, mDk, mCp) := rfl
            rcases T.kinds i hi with hkd | hkd | hkd
            · exact absurd hkd (Fnd.kd0 T fi)
            · simp only [hkd, if_true, if_neg (show ¬ (1 : Int32) = 2 by decide), h4, Option.bind_some]
              exact ⟨_, _, _, _, _, _, _, _, rfl, J⟩
            · simp only [hkd, if_true, if_neg (show ¬ (2 : Int32) = 1 by decide), h4]
              by_cases hmz : m ≤ z
              · simp only [if_pos hmz]
                obtain ⟨C, c1, c2⟩ := q_st (mDk := mDk) (a := b) (by omega) mCp
                have ec : eqd (ars b).2.2.2.1 C := fun w hw => by rw [J.dr b hb w hw, c2 w hw]
                obtain ⟨fr, D', C', d1, d2, d3, d4, d5⟩ := q_cut (mar := nI n) (fu := vat) (t := 0) (mLb := mLb) (mUs := mUs) (mWr := mWr) (mDk := mDk) (a := b) (i := i) (m := m) hi hm ec P T
                obtain ⟨ans', vat', ars', mUs', mWr', mDk', x1, x2, x3⟩ := q_fin J hb d5 d4 d3 fr
                have hm : f_M_truncate_102 (nI n) mLb (nI m) (nI b) (nI i) 0 0 vat mUs mWr mDk mCp = some (ans', 0, vat', mUs', mWr', mDk', C') := by
                  unfold f_M_truncate_102
                  rw [if_pos (by decide), c1, Option.bind_some, d2, x2]
                  rfl
                have x1' := x1
                simp only [wD] at x1'
                simp only [d1, Option.bind_some, jv_lt, x1', hm, if_true, q_out]
                exact ⟨_, _, _, _, _, _, _, _, rfl, x3⟩
              · simp only [if_neg hmz, Option.bind_some]
                exact ⟨_, _, _, _, _, _, _, _, rfl, J⟩
        · simp only [if_pos (show 80 < m by omega), if_neg hm, Option.bind_some, if_true, p10, if_false]
          exact ⟨_, _, _, _, _, _, _, _, rfl, J⟩
