/-! Blocks taken and released; what a session's own path is. -/
section
variable {n : Nat} {vat : Int32} {ars : Nat → jv_ar} {mLb mUs mWr mDk : Nat → Int32}
theorem q_own (K : Sk n ars mLb mDk) {b s : Nat} (hb : b < n) (hs : s < 4) {r : List Nat} (h : gpt r) (h1 : f_M_isSession mUs (nI (4 * b + s)) = some 1) (h2 : f_M_isPath (nI (enc r)) = some 1) :
    (f_V_ownInode n ars b (nI (enc r)) = some (.inl 3) ∧ f_M_refusal (nI n) mLb mUs mDk (nI (4 * b + s)) (nI (enc r)) = some 2) ∨ (f_V_ownInode n ars b (nI (enc r)) = some (.inl 2) ∧ f_M_refusal (nI n) mLb mUs mDk (nI (4 * b + s)) (nI (enc r)) = some 3) ∨
    (∃ i, i < 8 ∧ Fnd (ars b).2.2.2.1 r i ∧ f_V_ownInode n ars b (nI (enc r)) = some (.inr (nI i)) ∧ f_M_refusal (nI n) mLb mUs mDk (nI (4 * b + s)) (nI (enc r)) = some 0 ∧ f_M_find mDk (nI b) (nI (enc r)) = some (nI i) ∧ f_M_kind mDk (nI b) (nI (enc r)) = some (kd (ars b).2.2.2.1 i)) := by
  have hn := K.hn
  obtain ⟨c, c1, c2, c3, -⟩ := q_ks K hb hs h
  obtain ⟨v, v1, v2, v3⟩ := q_kd (a := b) (by omega) (K.dr b hb) (K.ti b hb) h
  obtain ⟨w, w1, w2, w3⟩ := q_mf (a := b) (by omega) (K.dr b hb) (K.ti b hb) h
  have e : nI (4 * b + s) / (4 : Int32) = nI b := by rw [q_d4 (by omega), show (4 * b + s) / 4 = b by omega]
  unfold f_V_ownInode f_V_ownInode_0 f_M_refusal f_M_refusal_0
  simp only [h1, h2, Option.bind_some, p10, if_false, c2, c3, w2, w3, v3, e]
  unfold sb0
  by_cases h0 : c = 0
  · simp only [if_pos h0, if_true]
    exact Or.inl ⟨trivial, trivial⟩
  · simp only [if_neg h0, p10, if_false]
    rcases w1 with ⟨i, hi, f1, rfl⟩ | ⟨f1, rfl⟩
    · have hv : v = kd (ars b).2.2.2.1 i := by
        rcases v1 with ⟨j, _, j1, rfl⟩ | ⟨j1, _⟩
        · rw [Fnd.uniq (K.ti b hb) j1 f1]
        · exact absurd f1 (j1 i)
      subst hv
      have hk0 := Fnd.kd0 (K.ti b hb) f1
      simp only [nI_m1 (show i < 2 ^ 31 by omega), if_false, if_neg hk0]
      refine Or.inr (Or.inr ⟨i, hi, f1, ?_, ?_, ?_, ?_⟩) <;> first | rfl | trivial
    · have hv : v = 0 := by
        rcases v1 with ⟨j, _, j1, rfl⟩ | ⟨_, j2⟩
        · exact absurd j1 (f1 j)
        · exact j2
      subst hv
      simp only [if_true]
      exact Or.inr (Or.inl ⟨trivial, trivial⟩)
theorem q_gu (J : Jd n vat ars mLb mUs mWr mDk) {a : Nat} (ha : a < n) (D : Nat → Int32) : ∃ ars', f_V_giveUp a (va_up ars a (wD (ars a) D)) = some (-2, ars') ∧ Jd n vat ars' mLb mUs mWr mDk := by
  obtain ⟨D', d1, d2, -⟩ := q_drop (ars a).2.2.1 D
  have hs : eqd D' (ars a).2.2.2.1 := fun w hw => by rw [d2 w hw, J.pl a ha w hw, J.dr a ha w hw]
  refine ⟨va_up (va_up ars a (wD (ars a) D)) a (wD (ars a) D'), ?_, ?_⟩
  · unfold f_V_giveUp f_V_giveUp_0
    simp only [va_up_self, wD, d1, Option.bind_some, jv_lt]
  · have hd : cpD mDk (fun w => mDk (232 * a + w)) a mDk := fun w => by
      by_cases h : 232 * a ≤ w ∧ w < 232 * a + 232
      · rw [if_pos h]
        show mDk w = mDk (232 * a + (w - 232 * a))
        rw [show 232 * a + (w - 232 * a) = w by omega]
      · rw [if_neg h]
    have hw : upd mWr a (mWr a) = mWr := by
      funext k
      by_cases h : k = a
      · rw [h, q_updS]
      · rw [q_updN h]
    have := J.done (ars' := va_up (va_up ars a (wD (ars a) D)) a (wD (ars a) D')) (v := mWr a) ha J.fv (fun b hb => by rw [va_up_ne _ _ hb, va_up_ne _ _ hb]) (by rw [va_up_self]; rfl) (by rw [va_up_self]; rfl) (by rw [va_up_self]; exact J.pl a ha) (by rw [va_up_self]; exact hs.trans (J.dr a ha)) (by rw [va_up_self]; exact (J.ti a ha).eqd hs.symm) (by rw [va_up_self]; exact (J.pi a ha).congr hs.symm) (by rw [va_up_self]; exact J.mkd a ha) (by rw [va_up_self]; exact J.wr a ha) hd
    rw [hw] at this
    exact this
end
def clr (m : Int32) (p : Nat) : Int32 := m &&& (((1 : Int32) <<< ((nI p - 1) &&& 31)) ^^^ (-1 : Int32))
theorem b_clr (m : Int32) {p : Nat} (h1 : 1 ≤ p) (h2 : p ≤ 32) {b : Nat} (hb : b < 32) : bt (clr m p) b = (bt m b && !decide (b + 1 = p)) := by
  unfold clr
  rw [b_and, b_xor, show (1 : Int32) = nI 1 from rfl, q_sub h1 (by omega), show nI 1 = (1 : Int32) from rfl, b_bit (by omega) hb, b_m1 b hb]
  by_cases h : b + 1 = p
  · rw [decide_eq_true h, decide_eq_true (show b = p - 1 by omega)]; rfl
  · rw [decide_eq_false h, decide_eq_false (show ¬ b = p - 1 by omega)]; rfl
theorem q_rel0 {D : Nat → Int32} : f_C_release (nI 0) D = some (0, D) := rfl
theorem q_g00 {D : Nat → Int32} : f_D_get D (0 : Int32) (0 : Int32) = some (D 0) := q_get (b := 0) (w := 0) (by omega)
theorem q_p00 {D : Nat → Int32} {v : Int32} : f_D_put (0 : Int32) (0 : Int32) v D = some (upd D 0 v) := q_put (b := 0) (w := 0) (by omega)
theorem q_rel1 {D : Nat → Int32} {p : Nat} (h1 : 1 ≤ p) (h2 : p ≤ 20) : f_C_release (nI p) D = some (1, upd D 0 (clr (D 0) p)) := by
  unfold f_C_release f_C_release_0
  rw [q_bb h1 h2, Option.bind_some, if_neg (fun z => by rw [nI_m1 (by omega)] at z; exact z), q_g00, Option.bind_some, q_p00]
  rfl
theorem q_dp0 {D : Nat → Int32} {h w : Nat} (hl : h * 8 + w < 232) (hp : D (h * 8 + w) = nI 0) : f_C_dropPointer (nI h) (nI w) D = some (0, upd D (h * 8 + w) 0) := by
  unfold f_C_dropPointer f_C_dropPointer_0
  rw [if_neg (fun z => by rw [nI_m1 (by omega)] at z; exact z), q_get hl, Option.bind_some, hp, q_rel0, Option.bind_some, q_put hl]
  rfl
theorem q_dp1 {D : Nat → Int32} {h w p : Nat} (hl : h * 8 + w < 232) (hp : D (h * 8 + w) = nI p) (h1 : 1 ≤ p) (h2 : p ≤ 20) : f_C_dropPointer (nI h) (nI w) D = some (1, upd (upd D 0 (clr (D 0) p)) (h * 8 + w) 0) := by
  unfold f_C_dropPointer f_C_dropPointer_0
  rw [if_neg (fun z => by rw [nI_m1 (by omega)] at z; exact z), q_get hl, Option.bind_some, hp, q_rel1 h1 h2, Option.bind_some, q_put hl]
  rfl
theorem q_mr0 {C : Nat → Int32} {l : Nat} (hl : l < 232) (hp : C l = nI 0) : f_M_release (nI l) C = some (0, C) := by
  unfold f_M_release f_M_release_0
  rw [q_ga hl (by omega), hp]
  rfl
theorem q_ga0 {C : Nat → Int32} : jv_ga C 232 (0 : Int32) = some (C 0) := q_ga (k := 0) (by omega) (by omega)
theorem q_sa0 {C : Nat → Int32} {v : Int32} : jv_sa C 232 (0 : Int32) v = some (upd C 0 v) := q_sa (k := 0) (by omega) (by omega)
theorem q_mr1 {C : Nat → Int32} {l p : Nat} (hl : l < 232) (hp : C l = nI p) (h1 : 1 ≤ p) (h2 : p ≤ 20) : f_M_release (nI l) C = some (1, upd (upd C 0 (clr (C 0) p)) l 0) := by
  unfold f_M_release f_M_release_0
  rw [q_ga hl (by omega), Option.bind_some, hp, if_neg (nI_ne0 (by omega) (by omega)), q_ga0, Option.bind_some, q_sa0, Option.bind_some, q_sa hl (by omega)]
  rfl
theorem eqd.upd {D C : Nat → Int32} (e : eqd D C) (l : Nat) (v : Int32) : eqd (upd D l v) (upd C l v) := fun w hw => by
  by_cases h : w = l
  · rw [h, q_updS, q_updS]
  · rw [q_updN h, q_updN h]; exact e w hw
/-- what only loses pointers keeps the pointers' order -/
theorem PI.sub {D D' : Nat → Int32} (P : PI D) (hm : ∀ i, 20 ≤ i → bt (D' 0) i = false) (hz : ∀ i, i < 8 → ∃ s, s ≤ 80 ∧ D' (8 + 8 * i + 3) = nI s) (hl : ∀ l, isLoc D' l → D' l = 0 ∨ (isLoc D l ∧ D' l = D l ∧ ∀ p, 1 ≤ p → p ≤ 20 → D l = nI p → bt (D 0) (p - 1) = true → bt (D' 0) (p - 1) = true)) : PI D' := by
  refine ⟨hm, hz, fun l h => ?_, fun l k h g e1 e2 => ?_⟩
  · rcases hl l h with h0 | ⟨h1, h2, h3⟩
    · exact ⟨0, by omega, h0, fun z => by omega⟩
    · obtain ⟨p, p1, p2, p3⟩ := P.ptr l h1
      exact ⟨p, p1, h2.trans p2, fun z => h3 p z p1 p2 (p3 z)⟩
  · rcases hl l h with h0 | ⟨h1, h2, h3⟩
    · exact absurd h0 e2
    · rcases hl k g with g0 | ⟨g1, g2, g3⟩
      · exact absurd (e1.trans g0) e2
      · exact P.inj l k h1 g1 (by rw [← h2, ← g2]; exact e1) (by rw [← h2]; exact e2)
theorem isLoc.ne0 {D : Nat → Int32} {l : Nat} (h : isLoc D l) : 8 < l := by
  rcases h with ⟨i, w, h⟩ | ⟨i, q, w, h⟩ <;> omega
theorem PI.rel {D : Nat → Int32} (P : PI D) {l p : Nat} (h : isLoc D l) (hp : D l = nI p) (h1 : 1 ≤ p) (h2 : p ≤ 20) : PI (upd (upd D 0 (clr (D 0) p)) l 0) := by
  have l0 := h.ne0
  have e0 : ∀ w, w ≠ 0 → w ≠ l → upd (upd D 0 (clr (D 0) p)) l 0 w = D w := fun w a b => by rw [q_updN b, q_updN a]
  have em : upd (upd D 0 (clr (D 0) p)) l 0 0 = clr (D 0) p := by rw [q_updN (by omega), q_updS]
  have nl : ∀ i, i < 8 → l ≠ 8 + 8 * i + 3 := fun i hi z => by
    rcases h with ⟨j, w, h⟩ | ⟨j, q, w, h⟩ <;> omega
  refine P.sub (fun i hi => ?_) (fun i hi => ?_) (fun k hk => ?_)
  · rw [em]
    rcases Nat.lt_or_ge i 32 with h3 | h3
    · rw [b_clr _ h1 (by omega) h3, P.map i hi]; rfl
    · exact b_big h3
  · rw [e0 _ (by omega) (fun z => nl i hi z.symm)]
    exact P.size i hi
  · by_cases hkl : k = l
    · left; rw [hkl, q_updS]
    · right
      have k0 := hk.ne0
      have hk2 : isLoc D k := by
        rcases hk with ⟨i, w, g⟩ | ⟨i, q, w, g1, g2, g3, g4, g5, g6⟩
        · exact Or.inl ⟨i, w, g⟩
        · refine Or.inr ⟨i, q, w, g1, g2, g3, g4, ?_, g6⟩
          by_cases hz : 8 + 8 * i + 6 = l
          · rw [hz, q_updS] at g5
            exact absurd g5.symm (nI_ne0 (by omega) (by omega))
          · rw [← g5, e0 _ (by omega) hz]
      refine ⟨hk2, e0 k (by omega) hkl, fun q q1 q2 q3 q4 => ?_⟩
      rw [em, b_clr _ h1 (by omega) (by omega), q4, decide_eq_false]
      · rfl
      · intro z
        have : q = p := by omega
        subst this
        exact hkl (P.inj k l hk2 h (q3.trans hp.symm) (by rw [q3]; exact nI_ne0 (by omega) (by omega)))
/-- words that are no pointers, no sizes, not the map -/
theorem PI.data {D : Nat → Int32} (P : PI D) {A : Nat} {v : Int32} (h0 : A ≠ 0) (h3 : ∀ i, i < 8 → A ≠ 8 + 8 * i + 3) (hA : ¬ isLoc D A) : PI (upd D A v) := by
  have em : upd D A v 0 = D 0 := q_updN (by omega)
  have hb : ∀ k, isLoc (upd D A v) k → isLoc D k := fun k hk => by
    rcases hk with ⟨i, w, g⟩ | ⟨i, q, w, g1, g2, g3, g4, g5, g6⟩
    · exact Or.inl ⟨i, w, g⟩
    · refine Or.inr ⟨i, q, w, g1, g2, g3, g4, ?_, g6⟩
      rw [q_updN] at g5
      · exact g5
      · intro z
        exact hA (Or.inl ⟨i, 6, g1, by omega, by omega, z.symm⟩)
  refine P.sub (fun i hi => by rw [em]; exact P.map i hi) (fun i hi => ?_) (fun k hk => Or.inr ⟨hb k hk, q_updN (fun z => hA (by rw [← z]; exact hb k hk)), fun p _ _ _ h => by rw [em]; exact h⟩)
  rw [q_updN (fun z => h3 i hi z.symm)]
  exact P.size i hi
theorem PI.siz {D : Nat → Int32} (P : PI D) {i s : Nat} (hi : i < 8) (hs : s ≤ 80) : PI (upd D (8 + 8 * i + 3) (nI s)) := by
  have em : upd D (8 + 8 * i + 3) (nI s) 0 = D 0 := q_updN (by omega)
  have hn : ∀ k, isLoc D k → k ≠ 8 + 8 * i + 3 := fun k hk z => by
    rcases hk with ⟨j, w, h⟩ | ⟨j, q, w, h⟩ <;> omega
  have hb : ∀ k, isLoc (upd D (8 + 8 * i + 3) (nI s)) k → isLoc D k := fun k hk => by
    rcases hk with ⟨j, w, g⟩ | ⟨j, q, w, g1, g2, g3, g4, g5, g6⟩
    · exact Or.inl ⟨j, w, g⟩
    · refine Or.inr ⟨j, q, w, g1, g2, g3, g4, ?_, g6⟩
      rw [q_updN (by omega)] at g5
      exact g5
  refine P.sub (fun j hj => by rw [em]; exact P.map j hj) (fun j hj => ?_) (fun k hk => Or.inr ⟨hb k hk, q_updN (hn k (hb k hk)), fun p _ _ _ h => by rw [em]; exact h⟩)
  by_cases h : j = i
  · rw [h, q_updS]; exact ⟨s, hs, rfl⟩
  · rw [q_updN (by omega)]; exact P.size j hj
/-- the words of a data block are no pointers -/
theorem PI.nloc {D : Nat → Int32} (P : PI D) {i k l p j : Nat} (hi : i < 8) (hk : k < 10) (h : locOf D i k l) (hp : D l = nI p) (h1 : 1 ≤ p) (h2 : p ≤ 20) (hj : j < 8) : ¬ isLoc D (64 + 8 * p + j) := by
  intro z
  have hl := h.isLoc hi hk
  rcases z with ⟨i', w, g⟩ | ⟨i', q, w, g1, g2, g3, g4, g5, g6⟩
  · omega
  · have hq : q = p := by omega
    subst hq
    have := P.inj l (8 + 8 * i' + 6) hl (Or.inl ⟨i', 6, g1, by omega, by omega, rfl⟩) (hp.trans g5.symm) (by rw [hp]; exact nI_ne0 (by omega) (by omega))
    rcases h with ⟨a1, a2⟩ | ⟨a1, q', a2, a3, a4, a5⟩ <;> omega
