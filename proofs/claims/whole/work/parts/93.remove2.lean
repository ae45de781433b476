/-! remove: the reference's side, and both -/
section
variable {mar fu t : Int32} {mLb mUs mWr mDk : Nat → Int32} {a i : Nat}
theorem e_8i (i w : Nat) : (8 : Int32) + (8 : Int32) * nI i + nI w = nI (8 + 8 * i + w) := by rw [show (8 : Int32) = nI 8 from rfl, q_mul, nI_add, nI_add]
theorem e_64 (q w : Nat) : (64 : Int32) + (8 : Int32) * nI q + nI w = nI (64 + 8 * q + w) := by rw [show (64 : Int32) = nI 64 from rfl, show (8 : Int32) = nI 8 from rfl, q_mul, nI_add, nI_add]
theorem q_rm3 (hi : i < 8) : ∀ d w, w + d = 8 → ∀ f, d < f → ∀ C : Nat → Int32, ∃ C' : Nat → Int32, jv_fx (f_M_remove_271 mar mLb (nI a) (nI i) t fu mUs mWr mDk) f (nI w, C) = ((f_M_finish C' (nI a) (nI i) fu mUs mWr mDk).bind fun x35 => some (x35.1, t, x35.2.1, x35.2.2.1, x35.2.2.2.1, x35.2.2.2.2, C')) ∧ ∀ x, C' x = if 8 + 8 * i + w ≤ x ∧ x < 16 + 8 * i then 0 else C x := by
  intro d
  induction d with
  | zero =>
    intro w hw f hf C
    obtain ⟨f, rfl⟩ : ∃ f', f = f' + 1 := ⟨f - 1, by omega⟩
    obtain rfl : w = 8 := by omega
    refine ⟨C, ?_, fun x => by rw [if_neg (by omega)]⟩
    rw [jv_fx_s]
    unfold f_M_remove_271
    simp only [show ((8 : Int32) ≤ nI 8) = True by decide, if_true]
  | succ d ih =>
    intro w hw f hf C
    obtain ⟨f, rfl⟩ : ∃ f', f = f' + 1 := ⟨f - 1, by omega⟩
    obtain ⟨C', h1, h2⟩ := ih (w + 1) (by omega) f (by omega) (upd C (8 + 8 * i + w) 0)
    refine ⟨C', ?_, fun x => ?_⟩
    · rw [jv_fx_s]
      generalize jv_fx (f_M_remove_271 mar mLb (nI a) (nI i) t fu mUs mWr mDk) f = kk at h1 ⊢
      unfold f_M_remove_271
      have h8 : ((8 : Int32) ≤ nI w) = (8 ≤ w) := q_le (a := 8) (by omega) (by omega)
      simp only [h8, if_neg (show ¬ 8 ≤ w by omega), e_8i, q_sa (f := C) (n := 232) (k := 8 + 8 * i + w) (by omega) (by omega), Option.bind_some, nI_1, h1]
    · rw [h2 x]
      by_cases h : 8 + 8 * i + (w + 1) ≤ x ∧ x < 16 + 8 * i
      · rw [if_pos h, if_pos (by omega)]
      · rw [if_neg h]
        by_cases h3 : x = 8 + 8 * i + w
        · subst h3
          rw [q_updS, if_pos (by omega)]
        · rw [q_updN h3, if_neg (by omega)]
/-- the map less some pointers -/
def lessM (C E : Nat → Int32) (L : Nat → Prop) : Prop := (∀ w, w ≠ 0 → E w = C w) ∧ ∀ b, b < 32 → (bt (E 0) b = true ↔ (bt (C 0) b = true ∧ ∀ l, L l → C l ≠ nI (b + 1)))
theorem lessM.same {C E : Nat → Int32} {L L' : Nat → Prop} {l0 : Nat} (h : lessM C E L) (hL : ∀ l, L' l ↔ (L l ∨ l = l0)) (h0 : C l0 = nI 0) : lessM C (upd E 0 (E 0)) L' := by
  refine ⟨fun w hw => by rw [q_updN hw]; exact h.1 w hw, fun b hb => ?_⟩
  rw [q_updS, h.2 b hb]
  refine and_congr_right fun _ => ⟨fun g l hl => ?_, fun g l hl => g l ((hL l).mpr (Or.inl hl))⟩
  rcases (hL l).mp hl with h1 | h1
  · exact g l h1
  · rw [h1, h0, nI_ne (by omega) hb]; omega
theorem lessM.less {C E : Nat → Int32} {L L' : Nat → Prop} {l0 p : Nat} (h : lessM C E L) (hL : ∀ l, L' l ↔ (L l ∨ l = l0)) (h0 : C l0 = nI p) (h1 : 1 ≤ p) (h2 : p ≤ 20) : lessM C (upd E 0 (clr (E 0) p)) L' := by
  refine ⟨fun w hw => by rw [q_updN hw]; exact h.1 w hw, fun b hb => ?_⟩
  rw [q_updS, b_clr _ h1 (by omega) hb, Bool.and_eq_true, h.2 b hb, Bool.not_eq_true', decide_eq_false_iff_not]
  constructor
  · rintro ⟨⟨g1, g2⟩, g3⟩
    refine ⟨g1, fun l hl => ?_⟩
    rcases (hL l).mp hl with z | z
    · exact g2 l z
    · rw [z, h0, nI_ne (by omega) hb]; exact g3
  · rintro ⟨g1, g2⟩
    refine ⟨⟨g1, fun l hl => g2 l ((hL l).mpr (Or.inl hl))⟩, ?_⟩
    have := g2 l0 ((hL l0).mpr (Or.inr rfl))
    rw [h0, nI_ne (by omega) hb] at this
    exact this
theorem clr_e {m : Int32} {p : Nat} : m &&& (((1 : Int32) <<< ((nI p - 1) &&& 31)) ^^^ (-1 : Int32)) = clr m p := rfl
theorem q_rm2 {C : Nat → Int32} (P : PB C) (hi : i < 8) {L : Nat → Prop} : ∀ d w, w + d = 7 → 4 ≤ w → ∀ f, d < f → ∀ E : Nat → Int32, lessM C E (fun l => L l ∨ ∃ k, 4 ≤ k ∧ k < w ∧ l = 8 + 8 * i + k) → ∃ E', jv_fx (f_M_remove_202 mar mLb (nI a) (nI i) t fu mUs mWr mDk) f (nI w, E) = jv_fx (f_M_remove_271 mar mLb (nI a) (nI i) t fu mUs mWr mDk) 300 (0, E') ∧ lessM C E' (fun l => L l ∨ ∃ k, 4 ≤ k ∧ k < 7 ∧ l = 8 + 8 * i + k) := by
  intro d
  induction d with
  | zero =>
    intro w hw h4 f hf E hE
    obtain ⟨f, rfl⟩ : ∃ f', f = f' + 1 := ⟨f - 1, by omega⟩
    obtain rfl : w = 7 := by omega
    refine ⟨E, ?_, hE⟩
    rw [jv_fx_s]
    unfold f_M_remove_202
    simp only [show ((7 : Int32) ≤ nI 7) = True by decide, if_true]
  | succ d ih =>
    intro w hw h4 f hf E hE
    obtain ⟨f, rfl⟩ : ∃ f', f = f' + 1 := ⟨f - 1, by omega⟩
    obtain ⟨p, p1, p2⟩ := P (8 + 8 * i + w) (Or.inl ⟨i, w, hi, h4, by omega, rfl⟩)
    have hL : ∀ l, (L l ∨ ∃ k, 4 ≤ k ∧ k < w + 1 ∧ l = 8 + 8 * i + k) ↔ ((L l ∨ ∃ k, 4 ≤ k ∧ k < w ∧ l = 8 + 8 * i + k) ∨ l = 8 + 8 * i + w) := fun l => by
      constructor
      · rintro (h | ⟨k, k1, k2, k3⟩)
        · exact Or.inl (Or.inl h)
        · by_cases hk : k = w
          · subst hk; exact Or.inr k3
          · exact Or.inl (Or.inr ⟨k, k1, by omega, k3⟩)
      · rintro ((h | ⟨k, k1, k2, k3⟩) | h)
        · exact Or.inl h
        · exact Or.inr ⟨k, k1, by omega, k3⟩
        · exact Or.inr ⟨w, h4, by omega, h⟩
    have h7 : ((7 : Int32) ≤ nI w) = (7 ≤ w) := q_le (a := 7) (by omega) (by omega)
    have ge : jv_ga E 232 (nI (8 + 8 * i + w)) = some (nI p) := by rw [q_ga (by omega) (by omega), hE.1 _ (by omega), p2]
    have hz : (nI p ≤ 0) = (p ≤ 0) := q_le (b := 0) (by omega) (by omega)
    by_cases hp : p = 0
    · subst hp
      obtain ⟨E', e1, e2⟩ := ih (w + 1) (by omega) (by omega) f (by omega) _ (hE.same hL p2)
      refine ⟨E', ?_, e2⟩
      rw [jv_fx_s]
      generalize jv_fx (f_M_remove_202 mar mLb (nI a) (nI i) t fu mUs mWr mDk) f = kk at e1 ⊢
      unfold f_M_remove_202
      simp only [h7, if_neg (show ¬ 7 ≤ w by omega), e_8i, ge, Option.bind_some, hz, if_pos (show 0 ≤ 0 by omega), q_ga0, q_sa0, nI_1, e1]
    · obtain ⟨E', e1, e2⟩ := ih (w + 1) (by omega) (by omega) f (by omega) _ (hE.less hL p2 (by omega) p1)
      refine ⟨E', ?_, e2⟩
      rw [jv_fx_s]
      generalize jv_fx (f_M_remove_202 mar mLb (nI a) (nI i) t fu mUs mWr mDk) f = kk at e1 ⊢
      unfold f_M_remove_202
      simp only [h7, if_neg (show ¬ 7 ≤ w by omega), e_8i, ge, Option.bind_some, hz, if_neg (show ¬ p ≤ 0 by omega), q_ga0, q_sa0, nI_1, clr_e, e1]
theorem q_rm1 {C : Nat → Int32} (P : PB C) (hi : i < 8) {q : Nat} (h1 : 1 ≤ q) (h2 : q ≤ 20) (hq : C (8 + 8 * i + 6) = nI q) : ∀ d w, w + d = 8 → ∀ f, d < f → ∀ E : Nat → Int32, lessM C E (fun l => ∃ k, k < w ∧ l = 64 + 8 * q + k) → ∃ E', jv_fx (f_M_remove_128 mar mLb (nI a) (nI i) (nI q) t fu mUs mWr mDk) f (nI w, E) = jv_fx (f_M_remove_202 mar mLb (nI a) (nI i) t fu mUs mWr mDk) 300 (4, E') ∧ lessM C E' (fun l => ∃ k, k < 8 ∧ l = 64 + 8 * q + k) := by
  intro d
  induction d with
  | zero =>
    intro w hw f hf E hE
    obtain ⟨f, rfl⟩ : ∃ f', f = f' + 1 := ⟨f - 1, by omega⟩
    obtain rfl : w = 8 := by omega
    refine ⟨E, ?_, hE⟩
    rw [jv_fx_s]
    unfold f_M_remove_128
    simp only [show ((8 : Int32) ≤ nI 8) = True by decide, if_true]
  | succ d ih =>
    intro w hw f hf E hE
    obtain ⟨f, rfl⟩ : ∃ f', f = f' + 1 := ⟨f - 1, by omega⟩
    obtain ⟨p, p1, p2⟩ := P (64 + 8 * q + w) (Or.inr ⟨i, q, w, hi, h1, h2, by omega, hq, rfl⟩)
    have hL : ∀ l, (∃ k, k < w + 1 ∧ l = 64 + 8 * q + k) ↔ ((∃ k, k < w ∧ l = 64 + 8 * q + k) ∨ l = 64 + 8 * q + w) := fun l => by
      constructor
      · rintro ⟨k, k2, k3⟩
        by_cases hk : k = w
        · subst hk; exact Or.inr k3
        · exact Or.inl ⟨k, by omega, k3⟩
      · rintro (⟨k, k2, k3⟩ | h)
        · exact ⟨k, by omega, k3⟩
        · exact ⟨w, by omega, h⟩
    have h8 : ((8 : Int32) ≤ nI w) = (8 ≤ w) := q_le (a := 8) (by omega) (by omega)
    have ge : jv_ga E 232 (nI (64 + 8 * q + w)) = some (nI p) := by rw [q_ga (by omega) (by omega), hE.1 _ (by omega), p2]
    have hz : (nI p ≤ 0) = (p ≤ 0) := q_le (b := 0) (by omega) (by omega)
    have hq0 : (nI q ≤ 0) = (q ≤ 0) := q_le (b := 0) (by omega) (by omega)
    by_cases hp : p = 0
    · subst hp
      obtain ⟨E', e1, e2⟩ := ih (w + 1) (by omega) f (by omega) _ (hE.same hL p2)
      refine ⟨E', ?_, e2⟩
      rw [jv_fx_s]
      generalize jv_fx (f_M_remove_128 mar mLb (nI a) (nI i) (nI q) t fu mUs mWr mDk) f = kk at e1 ⊢
      unfold f_M_remove_128
      simp only [h8, if_neg (show ¬ 8 ≤ w by omega), hq0, if_neg (show ¬ q ≤ 0 by omega), e_64, ge, Option.bind_some, hz, if_pos (show 0 ≤ 0 by omega), q_ga0, q_sa0, nI_1, e1]
    · obtain ⟨E', e1, e2⟩ := ih (w + 1) (by omega) f (by omega) _ (hE.less hL p2 (by omega) p1)
      refine ⟨E', ?_, e2⟩
      rw [jv_fx_s]
      generalize jv_fx (f_M_remove_128 mar mLb (nI a) (nI i) (nI q) t fu mUs mWr mDk) f = kk at e1 ⊢
      unfold f_M_remove_128
      simp only [h8, if_neg (show ¬ 8 ≤ w by omega), hq0, if_neg (show ¬ q ≤ 0 by omega), e_64, ge, Option.bind_some, hz, if_neg (show ¬ p ≤ 0 by omega), q_ga0, q_sa0, nI_1, clr_e, e1]
/-- the disk of a removal -/
def rmD (D : Nat → Int32) (i : Nat) (E : Nat → Int32) : Prop := (∀ w, w ≠ 0 → E w = if 8 + 8 * i ≤ w ∧ w < 16 + 8 * i then 0 else D w) ∧ ∀ b, b < 32 → (bt (E 0) b = true ↔ (bt (D 0) b = true ∧ ∀ l, ownL D i l → D l ≠ nI (b + 1)))
theorem q_rmM {C : Nat → Int32} (P : PB C) (hi : i < 8) : ∃ C', ((jv_ga C 232 (((8 : Int32) + ((8 : Int32) * nI i)) + (6 : Int32))).bind fun x13 => jv_fx (f_M_remove_128 mar mLb (nI a) (nI i) x13 t fu mUs mWr mDk) 300 ((0 : Int32), C)) = ((f_M_finish C' (nI a) (nI i) fu mUs mWr mDk).bind fun x35 => some (x35.1, t, x35.2.1, x35.2.2.1, x35.2.2.2.1, x35.2.2.2.2, C')) ∧ rmD C i C' := by
  obtain ⟨q, q1, q2⟩ := P.ind hi
  have key : ∃ E, ((jv_ga C 232 (((8 : Int32) + ((8 : Int32) * nI i)) + (6 : Int32))).bind fun x13 => jv_fx (f_M_remove_128 mar mLb (nI a) (nI i) x13 t fu mUs mWr mDk) 300 ((0 : Int32), C)) = jv_fx (f_M_remove_202 mar mLb (nI a) (nI i) t fu mUs mWr mDk) 300 (4, E) ∧ lessM C E (fun l => ∃ k, 1 ≤ q ∧ k < 8 ∧ l = 64 + 8 * q + k) := by
    rw [show (6 : Int32) = nI 6 from rfl, e_8i, q_ga (by omega) (by omega), q2, Option.bind_some]
    by_cases hq : q = 0
    · subst hq
      refine ⟨C, ?_, fun _ _ => rfl, fun b hb => ⟨fun h => ⟨h, fun l ⟨k, k1, _⟩ => by omega⟩, fun h => h.1⟩⟩
      rw [show (300 : Nat) = 299 + 1 from rfl, jv_fx_s]
      unfold f_M_remove_128
      simp only [show ((8 : Int32) ≤ 0) = False by decide, if_false, show (nI 0 ≤ 0) = True by decide, if_true]
    · obtain ⟨E, e1, e2⟩ := q_rm1 (mar := mar) (fu := fu) (t := t) (mLb := mLb) (mUs := mUs) (mWr := mWr) (mDk := mDk) (a := a) P hi (q := q) (by omega) q1 q2 8 0 rfl 300 (by omega) C ⟨fun _ _ => rfl, fun b hb => ⟨fun h => ⟨h, fun l ⟨k, k1, _⟩ => by omega⟩, fun h => h.1⟩⟩
      refine ⟨E, e1, e2.1, fun b hb => (e2.2 b hb).trans (and_congr_right fun _ => ⟨fun h l ⟨k, _, k1, k2⟩ => h l ⟨k, k1, k2⟩, fun h l ⟨k, k1, k2⟩ => h l ⟨k, by omega, k1, k2⟩⟩)⟩
  obtain ⟨E, k1, k2⟩ := key
  obtain ⟨F, f1, f2⟩ := q_rm2 (mar := mar) (fu := fu) (t := t) (mLb := mLb) (mUs := mUs) (mWr := mWr) (mDk := mDk) (a := a) P hi (L := fun l => ∃ k, 1 ≤ q ∧ k < 8 ∧ l = 64 + 8 * q + k) 3 4 rfl (by omega) 300 (by omega) E ⟨k2.1, fun b hb => (k2.2 b hb).trans (and_congr_right fun _ => ⟨fun h l hl => by
      rcases hl with hl | ⟨k, _, _, _⟩
      · exact h l hl
      · omega, fun h l hl => h l (Or.inl hl)⟩)⟩
  obtain ⟨C', c1, c2⟩ := q_rm3 (mar := mar) (fu := fu) (t := t) (mLb := mLb) (mUs := mUs) (mWr := mWr) (mDk := mDk) (a := a) hi 8 0 rfl 300 (by omega) F
  refine ⟨C', k1.trans (f1.trans c1), fun w hw => ?_, fun b hb => ?_⟩
  · rw [c2 w, f2.1 w hw, Nat.add_zero]
  · rw [c2 0, if_neg (by omega), f2.2 b hb]
    refine and_congr_right fun _ => ⟨fun h l hl => h l ?_, fun h l hl => h l ?_⟩
    · rcases hl with ⟨w, w1, w2, w3⟩ | ⟨q', w, g1, g2, g3, g4, g5⟩
      · exact Or.inr ⟨w, w1, by omega, w3⟩
      · have : q' = q := (nI_eq (by omega) (by omega)).mp (g4.symm.trans q2)
        subst this
        exact Or.inl ⟨w, g1, g3, g5⟩
    · rcases hl with ⟨k, g1, g2, g3⟩ | ⟨k, g1, g2, g3⟩
      · exact Or.inr ⟨q, k, g1, q1, g2, q2, g3⟩
      · exact Or.inl ⟨k, g1, by omega, g3⟩
theorem rmD.fn {D C E F : Nat → Int32} (e : eqd D C) (hi : i < 8) (h : rmD D i E) (g : rmD C i F) : eqd E F := by
  have ho : ∀ l, ownL D i l ↔ ownL C i l := fun l => by
    constructor
    · rintro (h1 | ⟨q, w, g1, g2, g3, g4, g5⟩)
      · exact Or.inl h1
      · exact Or.inr ⟨q, w, g1, g2, g3, by rw [← e _ (by omega)]; exact g4, g5⟩
    · rintro (h1 | ⟨q, w, g1, g2, g3, g4, g5⟩)
      · exact Or.inl h1
      · exact Or.inr ⟨q, w, g1, g2, g3, by rw [e _ (by omega)]; exact g4, g5⟩
  have hl : ∀ l, ownL D i l → l < 232 := fun l h1 => by
    rcases h1 with ⟨w, h1⟩ | ⟨q, w, h1⟩ <;> omega
  intro w hw
  by_cases h0 : w = 0
  · rw [h0]
    refine b_ext (fun b hb => Bool.eq_iff_iff.mpr ?_)
    rw [h.2 b hb, g.2 b hb, e 0 (by omega)]
    refine and_congr_right fun _ => ⟨fun z l k => ?_, fun z l k => ?_⟩
    · rw [← e l (hl l ((ho l).mpr k))]; exact z l ((ho l).mpr k)
    · rw [e l (hl l k)]; exact z l ((ho l).mp k)
  · rw [h.1 w h0, g.1 w h0]
    by_cases h1 : 8 + 8 * i ≤ w ∧ w < 16 + 8 * i
    · rw [if_pos h1, if_pos h1]
    · rw [if_neg h1, if_neg h1]; exact e w hw
theorem rmD.pi {D E : Nat → Int32} (P : PI D) (hi : i < 8) (h : rmD D i E) : PI E := by
  have e0 : ∀ w, w ≠ 0 → ¬ (8 + 8 * i ≤ w ∧ w < 16 + 8 * i) → E w = D w := fun w a b => by rw [h.1 w a, if_neg b]
  have ez : ∀ w, 8 + 8 * i ≤ w → w < 16 + 8 * i → E w = 0 := fun w a b => by rw [h.1 w (by omega), if_pos ⟨a, b⟩]
  refine P.sub (fun b hb => ?_) (fun j hj => ?_) (fun k hk => ?_)
  · cases hx : bt (E 0) b with
    | false => rfl
    | true =>
      rcases Nat.lt_or_ge b 32 with h3 | h3
      · have := ((h.2 b h3).mp hx).1
        rw [P.map b hb] at this
        cases this
      · rw [b_big h3] at hx; cases hx
  · by_cases hji : j = i
    · rw [hji, ez _ (by omega) (by omega)]; exact ⟨0, by omega, rfl⟩
    · rw [e0 _ (by omega) (by omega)]; exact P.size j hj
  · by_cases hin : 8 + 8 * i ≤ k ∧ k < 16 + 8 * i
    · exact Or.inl (ez k hin.1 hin.2)
    · right
      have k0 := hk.ne0
      have hk2 : isLoc D k ∧ ¬ ownL D i k := by
        rcases hk with ⟨j, w, g1, g2, g3, g4⟩ | ⟨j, q, w, g1, g2, g3, g4, g5, g6⟩
        · refine ⟨Or.inl ⟨j, w, g1, g2, g3, g4⟩, ?_⟩
          rintro (⟨w', a1, a2, a3⟩ | ⟨q, w', a1, a2, a3, a4, a5⟩) <;> omega
        · have hji : j ≠ i := fun z => by
            rw [z, ez _ (by omega) (by omega)] at g5
            exact nI_ne0 (by omega) (by omega) g5.symm
          rw [e0 _ (by omega) (by omega)] at g5
          refine ⟨Or.inr ⟨j, q, w, g1, g2, g3, g4, g5, g6⟩, ?_⟩
          rintro (⟨w', a1, a2, a3⟩ | ⟨q', w', a1, a2, a3, a4, a5⟩)
          · omega
          · have hq : q' = q := by omega
            subst hq
            have := P.inj (8 + 8 * j + 6) (8 + 8 * i + 6) (Or.inl ⟨j, 6, g1, by omega, by omega, rfl⟩) (Or.inl ⟨i, 6, hi, by omega, by omega, rfl⟩) (g5.trans a4.symm) (by rw [g5]; exact nI_ne0 (by omega) (by omega))
            omega
      refine ⟨hk2.1, e0 k (by omega) hin, fun p p1 p2 p3 p4 => (h.2 (p - 1) (by omega)).mpr ⟨p4, fun l hl z => ?_⟩⟩
      rw [show p - 1 + 1 = p by omega] at z
      have hl2 : isLoc D l := by
        rcases hl with ⟨w, a1, a2, a3⟩ | ⟨q, w, a1, a2, a3, a4, a5⟩
        · exact Or.inl ⟨i, w, hi, a1, a2, a3⟩
        · exact Or.inr ⟨i, q, w, hi, a1, a2, a3, a4, a5⟩
      have := P.inj l k hl2 hk2.1 (z.trans p3.symm) (by rw [z]; exact nI_ne0 (by omega) (by omega))
      rw [this] at hl
      exact hk2.2 hl
theorem rmD.ti {D E : Nat → Int32} (T : TI D) (h1 : 1 ≤ i) (hi : i < 8) (hc : ¬ hasC D i) (h : rmD D i E) : TI E := by
  have e0 : ∀ j w, j < 8 → w < 3 → j ≠ i → E (8 + 8 * j + w) = D (8 + 8 * j + w) := fun j w a b c => by rw [h.1 _ (by omega), if_neg (by omega)]
  have ez : ∀ w, w < 8 → E (8 + 8 * i + w) = 0 := fun w a => by rw [h.1 _ (by omega), if_pos (by omega)]
  have k0 : kd E i = 0 := ez 0 (by omega)
  have kj : ∀ j, j < 8 → j ≠ i → kd E j = kd D j := fun j a b => e0 j 0 a (by omega) b
  have pj : ∀ j, j < 8 → j ≠ i → pa E j = pa D j := fun j a b => e0 j 1 a (by omega) b
  have nj : ∀ j, j < 8 → j ≠ i → nm E j = nm D j := fun j a b => e0 j 2 a (by omega) b
  have hne : ∀ j, kd E j ≠ 0 → j ≠ i := fun j z y => z (by rw [y]; exact k0)
  refine ⟨?_, ?_, ?_, ?_, ?_, ?_, ?_⟩
  · rw [kj 0 (by omega) (by omega)]; exact T.root
  · intro j hj
    by_cases hji : j = i
    · rw [hji, k0]; exact Or.inl rfl
    · rw [kj j hj hji]; exact T.kinds j hj
  · intro j hj hk
    by_cases hji : j = i
    · rw [hji]; exact ez 2 (by omega)
    · rw [kj j hj hji] at hk
      rw [nj j hj hji]; exact T.free j hj hk
  · intro j h2 hj hk
    have hji := hne j hk
    rw [kj j hj hji] at hk
    obtain ⟨p, p1, p2, p3⟩ := T.par j h2 hj hk
    have hpi : p ≠ i := fun z => hc ⟨j, h2, hj, hk, by rw [p2, z]⟩
    exact ⟨p, p1, by rw [pj j hj hji]; exact p2, by rw [kj p p1 hpi]; exact p3⟩
  · intro j h2 hj hk
    have hji := hne j hk
    rw [kj j hj hji] at hk
    rw [nj j hj hji]
    exact T.nam j h2 hj hk
  · intro j k a1 a2 a3 a4 a5 a6 a7 a8
    have hji := hne j a5
    have hki := hne k a6
    rw [kj j a2 hji] at a5
    rw [kj k a4 hki] at a6
    rw [pj j a2 hji, pj k a4 hki] at a7
    rw [nj j a2 hji, nj k a4 hki] at a8
    exact T.uniq j k a1 a2 a3 a4 a5 a6 a7 a8
  · obtain ⟨r, r1, r2⟩ := T.rank
    refine ⟨r, r1, fun j p a1 a2 a3 a4 a5 => ?_⟩
    have hji := hne j a4
    rw [kj j a2 hji] at a4
    rw [pj j a2 hji] at a5
    exact r2 j p a1 a2 a3 a4 a5
theorem q_rmV {D : Nat → Int32} (P : PB D) (hi : i < 8) : ∃ E F, f_C_releaseAll (nI i) D = some E ∧ f_T_erase (nI i) E = some F ∧ rmD D i F := by
  obtain ⟨E, e1, e2, e3⟩ := q_ra P hi
  obtain ⟨F, f1, f2⟩ := q_zf (b := 1 + i) (w := 0) (by omega) (by omega) E
  refine ⟨E, F, e1, ?_, fun w hw => ?_, fun b hb => ?_⟩
  · unfold f_T_erase f_T_erase_0
    rw [show (1 : Int32) + nI i = nI (1 + i) from nI_add 1 i, show (0 : Int32) = nI 0 from rfl, f1]
    rfl
  · rw [f2 w]
    by_cases h : 8 + 8 * i ≤ w ∧ w < 16 + 8 * i
    · rw [if_pos h, if_pos (by omega)]
    · rw [if_neg h, if_neg (by omega)]; exact e2 w hw
  · rw [f2 0, if_neg (by omega)]; exact e3 b hb
end
