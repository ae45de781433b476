/-! truncate: the blocks behind the cut -/
theorem PI.gen {D D' : Nat → Int32} (P : PI D) (h : ∀ x, D' x = D x ∨ (x ≠ 0 ∧ (∀ i, i < 8 → x ≠ 8 + 8 * i + 3) ∧ ¬ isLoc D x)) : PI D' := by
  have em : D' 0 = D 0 := by
    rcases h 0 with h | h
    · exact h
    · exact absurd rfl h.1
  have hd : ∀ k, isLoc D k → D' k = D k := fun k hk => by
    rcases h k with h | h
    · exact h
    · exact absurd hk h.2.2
  have hb : ∀ k, isLoc D' k → isLoc D k := fun k hk => by
    rcases hk with ⟨i, w, g⟩ | ⟨i, q, w, g1, g2, g3, g4, g5, g6⟩
    · exact Or.inl ⟨i, w, g⟩
    · refine Or.inr ⟨i, q, w, g1, g2, g3, g4, ?_, g6⟩
      rw [← hd _ (Or.inl ⟨i, 6, g1, by omega, by omega, rfl⟩)]
      exact g5
  refine P.sub (fun i hi => by rw [em]; exact P.map i hi) (fun i hi => ?_) (fun k hk => Or.inr ⟨hb k hk, hd k (hb k hk), fun p _ _ _ h => by rw [em]; exact h⟩)
  rcases h (8 + 8 * i + 3) with h | h
  · rw [h]; exact P.size i hi
  · exact absurd rfl (h.2.1 i hi)
def Zk (D : Nat → Int32) (i k : Nat) : Prop := ∀ j, 2 ≤ j → j < k → ∀ l, locOf D i j l → D l = 0
def lfI (D : Nat → Int32) (i k lf : Nat) : Prop := lf ≤ k ∧ (lf = 0 ↔ Zk D i k)
theorem Zk.step {D : Nat → Int32} {i k : Nat} (h : ∀ l, locOf D i k l → D l = 0) : Zk D i (k + 1) ↔ Zk D i k := by
  constructor
  · intro z j h1 h2; exact z j h1 (by omega)
  · intro z j h1 h2 l hl
    by_cases hj : j = k
    · rw [hj] at hl; exact h l hl
    · exact z j h1 (by omega) l hl
theorem Zk.low {D : Nat → Int32} {i k : Nat} (h : k < 2) : Zk D i (k + 1) ↔ Zk D i k := by
  constructor
  · intro z j h1 h2; omega
  · intro z j h1 h2; omega
theorem Zk.non {D : Nat → Int32} {i k l : Nat} (h2 : 2 ≤ k) (h : locOf D i k l) (h3 : D l ≠ 0) : ¬ Zk D i (k + 1) := fun z => h3 (z k h2 (by omega) l h)
theorem upd_id {D : Nat → Int32} {l : Nat} {v : Int32} (h : D l = v) : upd D l v = D := by
  funext x
  by_cases hx : x = l
  · rw [hx, q_updS, h]
  · rw [q_updN hx]
theorem q_wih (k : Nat) : ∃ w, f_C_wordInHolder (nI k) = some w := by
  unfold f_C_wordInHolder f_C_wordInHolder_0
  by_cases h : (2 : Int32) ≤ nI k
  · rw [if_pos h]; exact ⟨_, rfl⟩
  · rw [if_neg h]; exact ⟨_, rfl⟩
section
variable {mar fu t : Int32} {mLb mUs mWr mDk : Nat → Int32} {a i m : Nat}
abbrev tr171 (mar : Int32) (mLb : Nat → Int32) (t fu : Int32) (mUs mWr mDk : Nat → Int32) (a i m : Nat) := fun (k129 : (Int32 × Int32 × Int32 × (Nat → Int32)) → Option (Int32 × Int32 × Int32 × (Nat → Int32) × (Nat → Int32) × (Nat → Int32) × (Nat → Int32))) (fr lf k w : Int32) (C : Nat → Int32) => f_M_truncate_171 mar mLb k129 (nI m) (nI a) (nI i) fr lf k w t fu mUs mWr mDk C
/-- the count behind a block, in the reference -/
theorem q_171 {C : Nat → Int32} (P : PB C) (hi : i < 8) {k : Nat} (hk : k < 10) {fr : Int32} {lf : Nat} (hl : lfI C i k lf) {k129 : (Int32 × Int32 × Int32 × (Nat → Int32)) → Option (Int32 × Int32 × Int32 × (Nat → Int32) × (Nat → Int32) × (Nat → Int32) × (Nat → Int32))} {w : Int32} (hw : f_M_pointer C (nI i) (nI k) = some w) : ∃ lf', lfI C i (k + 1) lf' ∧ f_M_truncate_171 mar mLb k129 (nI m) (nI a) (nI i) fr (nI lf) (nI k) w t fu mUs mWr mDk C = k129 (fr, nI lf', nI (k + 1), C) := by
  unfold f_M_truncate_171
  have h1 : (nI k ≤ (1 : Int32)) = (k ≤ 1) := q_le (b := 1) (by omega) (by omega)
  simp only [h1, nI_1, Int32.add_zero]
  by_cases hk1 : k ≤ 1
  · refine ⟨lf, ⟨by have := hl.1; omega, hl.2.trans (Zk.low (by omega)).symm⟩, ?_⟩
    rw [if_pos hk1]
  · rw [if_neg hk1]
    rcases q_mp P hi hk with ⟨b1, b2, b3⟩ | ⟨l, b1, b2, b3⟩
    · have e := Option.some.inj (hw.symm.trans b3)
      subst e
      refine ⟨lf, ⟨by have := hl.1; omega, hl.2.trans (Zk.step (fun l h => absurd (h.ne b1 b2) id)).symm⟩, ?_⟩
      rw [if_pos (by decide)]
    · have e := Option.some.inj (hw.symm.trans b3)
      subst e
      obtain ⟨p, p1, p2⟩ := P l (b1.isLoc hi hk)
      have hz : (nI p ≤ 0) = (p ≤ 0) := q_le (b := 0) (by omega) (by omega)
      rw [if_neg (nI_pos (by omega)), q_ga b2 (by omega), p2, Option.bind_some]
      by_cases hp : p = 0
      · refine ⟨lf, ⟨by have := hl.1; omega, hl.2.trans (Zk.step (fun l' h => by rw [h.fn b1, p2, hp]; rfl)).symm⟩, ?_⟩
        rw [if_pos (by rw [hz]; omega)]
      · refine ⟨lf + 1, ⟨by have := hl.1; omega, ⟨fun z => by omega, fun z => absurd z (Zk.non (by omega) b1 (by rw [p2]; exact nI_ne0 (by omega) (by omega)))⟩⟩, ?_⟩
        rw [if_neg (by rw [hz]; omega)]
theorem e_8k (k : Nat) : (8 : Int32) * nI k = nI (8 * k) := q_mul 8 k
/-- the blocks before the cut -/
theorem q_tr1 {C : Nat → Int32} (P : PB C) (hi : i < 8) (hm : m ≤ 80) {fr : Int32} : ∀ d k, k + d = (m + 7) / 8 → ∀ f, d + 11 ≤ f → ∀ lf, lfI C i k lf → ∃ f' lf', 11 ≤ f' ∧ lfI C i ((m + 7) / 8) lf' ∧ jv_fx (f_M_truncate_129 mar mLb (nI m) (nI a) (nI i) t fu mUs mWr mDk) f (fr, nI lf, nI k, C) = jv_fx (f_M_truncate_129 mar mLb (nI m) (nI a) (nI i) t fu mUs mWr mDk) f' (fr, nI lf', nI ((m + 7) / 8), C) := by
  intro d
  induction d with
  | zero =>
    intro k hk f hf lf hl
    have e : k = (m + 7) / 8 := by omega
    exact ⟨f, lf, hf, by rw [← e]; exact hl, by rw [← e]⟩
  | succ d ih =>
    intro k hk f hf lf hl
    obtain ⟨f, rfl⟩ : ∃ f', f = f' + 1 := ⟨f - 1, by omega⟩
    have h10 : ((10 : Int32) ≤ nI k) = (10 ≤ k) := q_le (a := 10) (by omega) (by omega)
    have hlt : (nI (8 * k) < nI m) = (8 * k < m) := q_lt (by omega) (by omega)
    have key : ∃ w, f_M_pointer C (nI i) (nI k) = some w := by
      rcases q_mp P hi (show k < 10 by omega) with ⟨b1, b2, b3⟩ | ⟨l, b1, b2, b3⟩
      · exact ⟨_, b3⟩
      · exact ⟨_, b3⟩
    obtain ⟨w, hw⟩ := key
    obtain ⟨lf', l1, l2⟩ := q_171 (mar := mar) (fu := fu) (t := t) (mLb := mLb) (mUs := mUs) (mWr := mWr) (mDk := mDk) (a := a) (m := m) P hi (show k < 10 by omega) (fr := fr) hl (k129 := jv_fx (f_M_truncate_129 mar mLb (nI m) (nI a) (nI i) t fu mUs mWr mDk) f) hw
    obtain ⟨f', lf'', g1, g2, g3⟩ := ih (k + 1) (by omega) f (by omega) lf' l1
    refine ⟨f', lf'', g1, g2, ?_⟩
    rw [← g3, ← l2, jv_fx_s]
    generalize jv_fx (f_M_truncate_129 mar mLb (nI m) (nI a) (nI i) t fu mUs mWr mDk) f = kk
    conv => lhs; unfold f_M_truncate_129
    simp only [h10, if_neg (show ¬ 10 ≤ k by omega), hw, Option.bind_some, e_8k, hlt, if_pos (show 8 * k < m by omega), ite_self]
/-- two disks of which the second only lost pointers of a file -/
def kpT (D D' : Nat → Int32) : Prop := ∀ j w, j < 8 → w < 3 → D' (8 + 8 * j + w) = D (8 + 8 * j + w)
theorem q_tr2 (hi : i < 8) (hm : m ≤ 80) : ∀ d k, k + d = 10 → (m + 7) / 8 ≤ k → ∀ f g, d < f → d < g → ∀ (fr : Int32) (lf : Nat) (D C : Nat → Int32), eqd D C → PI D → lfI D i k lf → ∃ fr' lf' D' C', jv_fx (f_C_cut_13 (nI i) (nI m)) f (fr, nI k, D) = f_C_cut_13 (nI i) (nI m) (fun _ => none) (fr', nI 10, D') ∧ jv_fx (f_M_truncate_129 mar mLb (nI m) (nI a) (nI i) t fu mUs mWr mDk) g (fr, nI lf, nI k, C) = f_M_truncate_129 mar mLb (nI m) (nI a) (nI i) t fu mUs mWr mDk (fun _ => none) (fr', nI lf', nI 10, C') ∧ eqd D' C' ∧ PI D' ∧ lfI D' i 10 lf' ∧ kpT D D' := by
  intro d
  induction d with
  | zero =>
    intro k hk hm2 f g hf hg fr lf D C e P hl
    obtain ⟨f, rfl⟩ : ∃ f', f = f' + 1 := ⟨f - 1, by omega⟩
    obtain ⟨g, rfl⟩ : ∃ g', g = g' + 1 := ⟨g - 1, by omega⟩
    obtain rfl : k = 10 := by omega
    refine ⟨fr, lf, D, C, ?_, ?_, e, P, hl, fun _ _ _ _ => rfl⟩
    · rw [jv_fx_s]
      unfold f_C_cut_13
      simp only [show ((10 : Int32) ≤ nI 10) = True by decide, if_true]
    · rw [jv_fx_s]
      unfold f_M_truncate_129
      simp only [show ((10 : Int32) ≤ nI 10) = True by decide, if_true]
  | succ d ih =>
    intro k hk hm2 f g hf hg fr lf D C e P hl
    obtain ⟨f, rfl⟩ : ∃ f', f = f' + 1 := ⟨f - 1, by omega⟩
    obtain ⟨g, rfl⟩ : ∃ g', g = g' + 1 := ⟨g - 1, by omega⟩
    have h10 : ((10 : Int32) ≤ nI k) = (10 ≤ k) := q_le (a := 10) (by omega) (by omega)
    have hlt : (nI (8 * k) < nI m) = (8 * k < m) := q_lt (by omega) (by omega)
    have hlC : lfI C i k lf := by
      refine ⟨hl.1, hl.2.trans ⟨fun z j h1 h2 l h => ?_, fun z j h1 h2 l h => ?_⟩⟩
      · have h' := h.congr e.symm hi
        rw [← e l (h'.isLoc hi (by omega)).lt]; exact z j h1 h2 l h'
      · rw [e l (h.isLoc hi (by omega)).lt]; exact z j h1 h2 l (h.congr e hi)
    have PC := (P.congr e).pb
    have back : ∀ {D C : Nat → Int32} {q lf : Nat}, q ≤ 10 → eqd D C → lfI C i q lf → lfI D i q lf := fun hq e h => by
      refine ⟨h.1, h.2.trans ⟨fun z j h1 h2 l h => ?_, fun z j h1 h2 l h => ?_⟩⟩
      · rw [e l (h.isLoc hi (by omega)).lt]; exact z j h1 h2 l (h.congr e hi)
      · have h' := h.congr e.symm hi
        rw [← e l (h'.isLoc hi (by omega)).lt]; exact z j h1 h2 l h'
    rcases q_hp P.pb e hi (show k < 10 by omega) with ⟨a1, a2, a3, a4⟩ | ⟨l, h, w, a1, a2, a3, a4, a5, a6, a7⟩
    · obtain ⟨w, hw⟩ := q_wih k
      obtain ⟨lf1, l1, l2⟩ := q_171 (mar := mar) (fu := fu) (t := t) (mLb := mLb) (mUs := mUs) (mWr := mWr) (mDk := mDk) (a := a) (m := m) PC hi (show k < 10 by omega) (fr := fr) hlC (k129 := jv_fx (f_M_truncate_129 mar mLb (nI m) (nI a) (nI i) t fu mUs mWr mDk) g) a4
      obtain ⟨fr', lf', D', C', g1, g2, g3, g4, g5, g6⟩ := ih (k + 1) (by omega) (by omega) f g (by omega) (by omega) fr lf1 D C e P (back (by omega) e l1)
      refine ⟨fr', lf', D', C', ?_, ?_, g3, g4, g5, g6⟩
      · rw [← g1, jv_fx_s]
        generalize jv_fx (f_C_cut_13 (nI i) (nI m)) f = kk
        conv => lhs; unfold f_C_cut_13
        have hd : f_C_dropPointer (-1) w D = some (0, D) := rfl
        simp only [h10, if_neg (show ¬ 10 ≤ k by omega), a3, hw, hd, Option.bind_some, Int32.add_zero, nI_1]
      · rw [← g2, ← l2, jv_fx_s]
        generalize jv_fx (f_M_truncate_129 mar mLb (nI m) (nI a) (nI i) t fu mUs mWr mDk) g = kk
        conv => lhs; unfold f_M_truncate_129
        simp only [h10, if_neg (show ¬ 10 ≤ k by omega), a4, Option.bind_some, show ((-1 : Int32) < 0) = True by decide, if_true]
    · subst a4
      have hloc := a1.isLoc hi (show k < 10 by omega)
      obtain ⟨p, p1, p2, -⟩ := P.ptr (h * 8 + w) hloc
      have cp : C (h * 8 + w) = nI p := by rw [← e _ a5]; exact p2
      by_cases hp : p = 0
      · subst hp
        obtain ⟨lf1, l1, l2⟩ := q_171 (mar := mar) (fu := fu) (t := t) (mLb := mLb) (mUs := mUs) (mWr := mWr) (mDk := mDk) (a := a) (m := m) PC hi (show k < 10 by omega) (fr := fr) hlC (k129 := jv_fx (f_M_truncate_129 mar mLb (nI m) (nI a) (nI i) t fu mUs mWr mDk) g) a7
        obtain ⟨fr', lf', D', C', g1, g2, g3, g4, g5, g6⟩ := ih (k + 1) (by omega) (by omega) f g (by omega) (by omega) fr lf1 D C e P (back (by omega) e l1)
        refine ⟨fr', lf', D', C', ?_, ?_, g3, g4, g5, g6⟩
        · rw [← g1, jv_fx_s]
          generalize jv_fx (f_C_cut_13 (nI i) (nI m)) f = kk
          conv => lhs; unfold f_C_cut_13
          have hd := q_dp0 a5 p2
          rw [upd_id (show D (h * 8 + w) = 0 from p2)] at hd
          simp only [h10, if_neg (show ¬ 10 ≤ k by omega), a2, a3, hd, Option.bind_some, Int32.add_zero, nI_1]
        · rw [← g2, ← l2, jv_fx_s]
          generalize jv_fx (f_M_truncate_129 mar mLb (nI m) (nI a) (nI i) t fu mUs mWr mDk) g = kk
          conv => lhs; unfold f_M_truncate_129
          simp only [h10, if_neg (show ¬ 10 ≤ k by omega), a7, Option.bind_some, q_lt0 (show h * 8 + w < 2 ^ 31 by omega), if_false, e_8k, hlt, if_neg (show ¬ 8 * k < m by omega), q_mr0 a5 cp, Int32.add_zero]
      · have P1 := P.rel hloc p2 (by omega) p1
        have e1 : eqd (upd (upd D 0 (clr (D 0) p)) (h * 8 + w) 0) (upd (upd C 0 (clr (C 0) p)) (h * 8 + w) 0) := by
          rw [← e 0 (by omega)]
          exact (e.upd 0 _).upd _ _
        have hne : h * 8 + w ≠ 8 + 8 * i + 6 := by
          rcases a1 with ⟨z1, z2⟩ | ⟨z1, q, z2, z3, z4, z5⟩ <;> omega
        have hl0 := hloc.ne0
        have lo : ∀ {j l}, locOf (upd (upd D 0 (clr (D 0) p)) (h * 8 + w) 0) i j l ↔ locOf D i j l := fun {j l} => by
          have e6 : upd (upd D 0 (clr (D 0) p)) (h * 8 + w) 0 (8 + 8 * i + 6) = D (8 + 8 * i + 6) := by rw [q_updN (fun z => hne z.symm), q_updN (by omega)]
          unfold locOf
          rw [e6]
        have dif : ∀ {j l}, j ≠ k → locOf D i j l → l ≠ h * 8 + w := fun {j l} hj hl z => by
          rcases hl with ⟨z1, z2⟩ | ⟨z1, q, z2, z3, z4, z5⟩ <;> rcases a1 with ⟨y1, y2⟩ | ⟨y1, q', y2, y3, y4, y5⟩
          · omega
          · omega
          · omega
          · have := (nI_eq (by omega) (by omega)).mp (z4.symm.trans y4)
            omega
        have hl1 : lfI (upd (upd D 0 (clr (D 0) p)) (h * 8 + w) 0) i k lf := by
          refine ⟨hl.1, hl.2.trans ⟨fun z j h1 h2 l h => ?_, fun z j h1 h2 l h => ?_⟩⟩
          · have h' := lo.mp h
            rw [q_updN (dif (by omega) h'), q_updN h'.pos]
            exact z j h1 h2 l h'
          · have := z j h1 h2 l (lo.mpr h)
            rw [q_updN (dif (by omega) h), q_updN h.pos] at this
            exact this
        have hl1C : lfI (upd (upd C 0 (clr (C 0) p)) (h * 8 + w) 0) i k lf := back (by omega) e1.symm hl1
        have a7' : f_M_pointer (upd (upd C 0 (clr (C 0) p)) (h * 8 + w) 0) (nI i) (nI k) = some (nI (h * 8 + w)) := by
          rcases q_mp (P1.congr e1).pb hi (show k < 10 by omega) with ⟨b1, b2, b3⟩ | ⟨l, b1, b2, b3⟩
          · rw [q_updN (fun z => hne z.symm), q_updN (by omega), ← e _ (by omega)] at b2
            exact absurd (a1.ne b1 b2) id
          · rw [b3]
            have := (lo.mp (b1.congr e1.symm hi)).fn a1
            rw [this]
        obtain ⟨lf1, l1, l2⟩ := q_171 (mar := mar) (fu := fu) (t := t) (mLb := mLb) (mUs := mUs) (mWr := mWr) (mDk := mDk) (a := a) (m := m) (P1.congr e1).pb hi (show k < 10 by omega) (fr := fr + 1) hl1C (k129 := jv_fx (f_M_truncate_129 mar mLb (nI m) (nI a) (nI i) t fu mUs mWr mDk) g) a7'
        obtain ⟨fr', lf', D', C', g1, g2, g3, g4, g5, g6⟩ := ih (k + 1) (by omega) (by omega) f g (by omega) (by omega) (fr + 1) lf1 _ _ e1 P1 (back (by omega) e1 l1)
        refine ⟨fr', lf', D', C', ?_, ?_, g3, g4, g5, fun j w' hj hw' => ?_⟩
        · rw [← g1, jv_fx_s]
          generalize jv_fx (f_C_cut_13 (nI i) (nI m)) f = kk
          conv => lhs; unfold f_C_cut_13
          have hd := q_dp1 a5 p2 (by omega) p1
          simp only [h10, if_neg (show ¬ 10 ≤ k by omega), a2, a3, hd, Option.bind_some, nI_1]
        · rw [← g2, ← l2, jv_fx_s]
          generalize jv_fx (f_M_truncate_129 mar mLb (nI m) (nI a) (nI i) t fu mUs mWr mDk) g = kk
          conv => lhs; unfold f_M_truncate_129
          simp only [h10, if_neg (show ¬ 10 ≤ k by omega), a7, Option.bind_some, q_lt0 (show h * 8 + w < 2 ^ 31 by omega), if_false, e_8k, hlt, if_neg (show ¬ 8 * k < m by omega), q_mr1 a5 cp (show 1 ≤ p by omega) p1]
        · rw [g6 j w' hj hw', q_updN, q_updN (by omega)]
          intro z
          rcases hloc with ⟨i2, w2, z1⟩ | ⟨i2, q2, w2, z1⟩ <;> omega
end
