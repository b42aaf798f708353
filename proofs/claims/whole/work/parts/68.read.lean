/-! ===== the class reads the text ===== -/
theorem nnum_le {tx : Nat → Nat} {l i a b p : Nat} (hi : i ≤ l) (h : nnum tx l i a b = .inl p) : p ≤ l := by
  obtain ⟨k1, -⟩ := tkn_ok tx hi
  unfold nnum at h
  split at h
  · cases h
  · have := Sum.inl.inj h; omega
theorem nplt_le {tx : Nat → Nat} {l i p : Nat} (hi : i ≤ l) (h : nplt tx l i = .inl p) : p ≤ l := by
  obtain ⟨k1, -⟩ := tkn_ok tx hi
  unfold nplt at h
  split at h
  · cases h
  · have := Sum.inl.inj h; omega
theorem nend_le {tx : Nat → Nat} {l i p : Nat} (hi : i ≤ l) (h : nend tx l i = .inl p) : p ≤ l := by
  obtain ⟨k1, -⟩ := tkn_ok tx hi
  unfold nend at h
  split at h
  · cases h
  · have := Sum.inl.inj h; omega
theorem inl_le {α : Type} {p q l : Nat} (h : (Sum.inl p : Nat ⊕ α) = .inl q) (hp : p ≤ l) : q ≤ l := by
  have := Sum.inl.inj h; omega
theorem prR_le {tx : Nat → Nat} {l i p : Nat} (hi : i ≤ l) (h : prR tx l i = .inl p) : p ≤ l := by
  unfold prR at h
  cases e1 : nnum tx l i 0 999 with
  | inl p => rw [e1] at h; exact inl_le h (nnum_le hi e1)
  | inr v1 =>
    obtain ⟨d', i1⟩ := v1
    rw [e1] at h; dsimp only at h
    have k1 := nnum_ok hi e1
    cases e2 : nnum tx l i1 0 9999 with
    | inl p => rw [e2] at h; exact inl_le h (nnum_le k1.2.2.2.2 e2)
    | inr v2 =>
      obtain ⟨c', i2⟩ := v2
      rw [e2] at h; dsimp only at h
      have k2 := nnum_ok (by omega) e2
      cases e3 : nnum tx l i2 1 9 with
      | inl p => rw [e3] at h; exact inl_le h (nnum_le k2.2.2.2.2 e3)
      | inr v3 =>
        obtain ⟨w', i3⟩ := v3
        rw [e3] at h; dsimp only at h
        have k3 := nnum_ok (by omega) e3
        cases e4 : nend tx l i3 with
        | inl p => rw [e4] at h; exact inl_le h (nend_le k3.2.2.2.2 e4)
        | inr v4 => rw [e4] at h; cases h
theorem prP_le {tx : Nat → Nat} {l i p : Nat} (hi : i ≤ l) (h : prP tx l i = .inl p) : p ≤ l := by
  unfold prP at h
  cases e1 : nnum tx l i 0 999 with
  | inl p => rw [e1] at h; exact inl_le h (nnum_le hi e1)
  | inr v1 =>
    obtain ⟨d', i1⟩ := v1
    rw [e1] at h; dsimp only at h
    have k1 := nnum_ok hi e1
    cases e2 : nplt tx l i1 with
    | inl p => rw [e2] at h; exact inl_le h (nplt_le k1.2.2.2.2 e2)
    | inr v2 =>
      obtain ⟨w', i2⟩ := v2
      rw [e2] at h; dsimp only at h
      have k2 := nplt_ok (by omega) e2
      cases e3 : nplt tx l i2 with
      | inl p => rw [e3] at h; exact inl_le h (nplt_le k2.2.2 e3)
      | inr v3 =>
        obtain ⟨t', i3⟩ := v3
        rw [e3] at h; dsimp only at h
        have k3 := nplt_ok (by omega) e3
        by_cases c : t' = w'
        · rw [if_pos c] at h; exact inl_le h (tkn_ok tx k2.2.2).1
        · rw [if_neg c] at h
          cases e4 : nend tx l i3 with
          | inl p => rw [e4] at h; exact inl_le h (nend_le k3.2.2 e4)
          | inr v4 => rw [e4] at h; cases h
theorem prF_le {tx : Nat → Nat} {l i p : Nat} (hi : i ≤ l) (h : prF tx l i = .inl p) : p ≤ l := by
  unfold prF at h
  cases e1 : nnum tx l i 1 99 with
  | inl p => rw [e1] at h; exact inl_le h (nnum_le hi e1)
  | inr v1 =>
    obtain ⟨d', i1⟩ := v1
    rw [e1] at h; dsimp only at h
    have k1 := nnum_ok hi e1
    cases e4 : nend tx l i1 with
    | inl p => rw [e4] at h; exact inl_le h (nend_le k1.2.2.2.2 e4)
    | inr v4 => rw [e4] at h; cases h
theorem prW_le {tx : Nat → Nat} {l i p : Nat} (hi : i ≤ l) (h : prW tx l i = .inl p) : p ≤ l := by
  unfold prW at h
  cases e1 : nnum tx l i 0 9999 with
  | inl p => rw [e1] at h; exact inl_le h (nnum_le hi e1)
  | inr v1 =>
    obtain ⟨d', i1⟩ := v1
    rw [e1] at h; dsimp only at h
    have k1 := nnum_ok hi e1
    by_cases c : 0 < d' ∧ d' < 100
    · rw [if_pos c] at h; exact inl_le h (tkn_ok tx hi).1
    · rw [if_neg c] at h
      cases e4 : nend tx l i1 with
      | inl p => rw [e4] at h; exact inl_le h (nend_le k1.2.2.2.2 e4)
      | inr v4 => rw [e4] at h; cases h
theorem prO_le {tx : Nat → Nat} {l i p : Nat} (hi : i ≤ l) (h : prO tx l i = .inl p) : p ≤ l := by
  unfold prO at h
  cases e1 : nplt tx l i with
  | inl p => rw [e1] at h; exact inl_le h (nplt_le hi e1)
  | inr v1 =>
    obtain ⟨d', i1⟩ := v1
    rw [e1] at h; dsimp only at h
    have k1 := nplt_ok hi e1
    cases e4 : nend tx l i1 with
    | inl p => rw [e4] at h; exact inl_le h (nend_le k1.2.2 e4)
    | inr v4 => rw [e4] at h; cases h
def itm (tx : Nat → Nat) (l : Nat) (st : PS) (p e c : Nat) : Nat ⊕ (PS × Nat) :=
  if c = 114 then (if st.1.2 = 10 then .inl p else match prR tx l e with
    | .inl q => .inl q
    | .inr (x, e') => .inr (((hIns st.1.1 (pos st.1.1 st.1.2 x.1) x.1 x.2.1 x.2.2, st.1.2 + 1), st.2), e'))
  else if c = 112 then (if pN st.2.1 = 6 then .inl p else match prP tx l e with
    | .inl q => .inl q
    | .inr (x, e') => .inr ((st.1, pIns st.2.1 x.1 x.2.1 x.2.2, st.2.2), e'))
  else if c = 102 then (if st.2.2.1 = true then .inl p else match prF tx l e with
    | .inl q => .inl q
    | .inr (v, e') => .inr (((hRul st.1.1 v (hWrap st.1.1), st.1.2), st.2.1, (true, st.2.2.2.1, st.2.2.2.2)), e'))
  else if c = 119 then (if st.2.2.2.1 = true then .inl p else match prW tx l e with
    | .inl q => .inl q
    | .inr (v, e') => .inr (((hRul st.1.1 (hRate st.1.1) v, st.1.2), st.2.1, (st.2.2.1, true, st.2.2.2.2)), e'))
  else if c = 111 then (if st.2.2.2.2 = true then .inl p else match prO tx l e with
    | .inl q => .inl q
    | .inr (v, e') => .inr ((st.1, pSta st.2.1 v, (st.2.2.1, st.2.2.2.1, true)), e'))
  else .inl p
def item (tx : Nat → Nat) (l : Nat) (st : PS) (i : Nat) : Nat ⊕ (PS × Nat) := if (tkn tx l i).2.2.1 = 2 then itm tx l st (tkn tx l i).1 (tkn tx l i).2.1 (tkn tx l i).2.2.2 else .inl (tkn tx l i).1
def PSB (st : PS) : Prop := HB st.1.1 st.1.2 ∧ PTB st.2.1
theorem itm_ok {tx : Nat → Nat} {l : Nat} {st : PS} {p e c : Nat} (he : e ≤ l) (hb : PSB st) {st' : PS} {e' : Nat} (h : itm tx l st p e c = .inr (st', e')) : PSB st' ∧ e < e' ∧ e' ≤ l := by
  obtain ⟨hb1, hb2⟩ := hb
  unfold itm at h
  by_cases c1 : c = 114
  · rw [if_pos c1] at h
    by_cases c2 : st.1.2 = 10
    · rw [if_pos c2] at h; cases h
    · rw [if_neg c2] at h
      cases e1 : prR tx l e with
      | inl q => rw [e1] at h; cases h
      | inr v =>
        obtain ⟨⟨d, c', w⟩, e''⟩ := v
        rw [e1] at h; dsimp only at h
        have k := prR_ok he e1
        obtain ⟨rfl, rfl⟩ := Prod.mk.inj (Sum.inr.inj h)
        have hn := hb1.1
        exact ⟨⟨HB_ins hb1 (by omega) (pos_le _ _ _) k.1 k.2.1 k.2.2.1, hb2⟩, k.2.2.2⟩
  · rw [if_neg c1] at h
    by_cases c2 : c = 112
    · rw [if_pos c2] at h
      by_cases c3 : pN st.2.1 = 6
      · rw [if_pos c3] at h; cases h
      · rw [if_neg c3] at h
        cases e1 : prP tx l e with
        | inl q => rw [e1] at h; cases h
        | inr v =>
          obtain ⟨⟨d, w, t⟩, e''⟩ := v
          rw [e1] at h; dsimp only at h
          have k := prP_ok he e1
          obtain ⟨rfl, rfl⟩ := Prod.mk.inj (Sum.inr.inj h)
          have hn : pN st.2.1 ≤ 6 := hb2.1
          exact ⟨⟨hb1, PTB_ins hb2 (by omega) k.1 k.2.1⟩, k.2.2⟩
    · rw [if_neg c2] at h
      by_cases c3 : c = 102
      · rw [if_pos c3] at h
        by_cases c4 : st.2.2.1 = true
        · rw [if_pos c4] at h; cases h
        · rw [if_neg c4] at h
          cases e1 : prF tx l e with
          | inl q => rw [e1] at h; cases h
          | inr v =>
            obtain ⟨v, e''⟩ := v
            rw [e1] at h; dsimp only at h
            have k := prF_ok he e1
            obtain ⟨rfl, rfl⟩ := Prod.mk.inj (Sum.inr.inj h)
            exact ⟨⟨HB_rul hb1 k.1 hb1.2.2.1, hb2⟩, k.2⟩
      · rw [if_neg c3] at h
        by_cases c4 : c = 119
        · rw [if_pos c4] at h
          by_cases c5 : st.2.2.2.1 = true
          · rw [if_pos c5] at h; cases h
          · rw [if_neg c5] at h
            cases e1 : prW tx l e with
            | inl q => rw [e1] at h; cases h
            | inr v =>
              obtain ⟨v, e''⟩ := v
              rw [e1] at h; dsimp only at h
              have k := prW_ok he e1
              obtain ⟨rfl, rfl⟩ := Prod.mk.inj (Sum.inr.inj h)
              exact ⟨⟨HB_rul hb1 hb1.2.1 k.1, hb2⟩, k.2⟩
        · rw [if_neg c4] at h
          by_cases c5 : c = 111
          · rw [if_pos c5] at h
            by_cases c6 : st.2.2.2.2 = true
            · rw [if_pos c6] at h; cases h
            · rw [if_neg c6] at h
              cases e1 : prO tx l e with
              | inl q => rw [e1] at h; cases h
              | inr v =>
                obtain ⟨v, e''⟩ := v
                rw [e1] at h; dsimp only at h
                have k := prO_ok he e1
                obtain ⟨rfl, rfl⟩ := Prod.mk.inj (Sum.inr.inj h)
                exact ⟨⟨hb1, PTB_sta hb2 k.1⟩, k.2⟩
          · rw [if_neg c5] at h; cases h
theorem item_ok {tx : Nat → Nat} {l : Nat} {st : PS} {i : Nat} (hi : i ≤ l) (hb : PSB st) {st' : PS} {e' : Nat} (h : item tx l st i = .inr (st', e')) : PSB st' ∧ i < e' ∧ e' ≤ l := by
  obtain ⟨k1, k2, k3, k4, k5⟩ := tkn_ok tx hi
  unfold item at h
  by_cases c : (tkn tx l i).2.2.1 = 2
  · rw [if_pos c] at h
    have this_0 := itm_ok k2 hb h
    have := k4 (by omega)
    exact ⟨this_0.1, by omega, by omega⟩
  · rw [if_neg c] at h; cases h
def hous (tx : Nat → Nat) (l : Nat) : Nat → PS → Nat → Nat → Nat ⊕ (PS × Nat)
  | 0, _, _, _ => .inl 0
  | F + 1, st, i, j => if (tkn tx l i).2.2.1 = 0 then .inr (st, j) else match item tx l st i with
    | .inl p => .inl p
    | .inr (st', e) => hous tx l F st' e (j + 1)
theorem hous_e {tx : Nat → Nat} {l F : Nat} {st : PS} {i j : Nat} (h : (tkn tx l i).2.2.1 = 0) : hous tx l (F + 1) st i j = .inr (st, j) := if_pos h
theorem hous_l {tx : Nat → Nat} {l F : Nat} {st : PS} {i j p : Nat} (h : ¬ (tkn tx l i).2.2.1 = 0) (e : item tx l st i = .inl p) : hous tx l (F + 1) st i j = .inl p := by
  show (if _ then _ else _) = _
  rw [if_neg h, e]
theorem hous_r {tx : Nat → Nat} {l F : Nat} {st st' : PS} {i j e' : Nat} (h : ¬ (tkn tx l i).2.2.1 = 0) (e : item tx l st i = .inr (st', e')) : hous tx l (F + 1) st i j = hous tx l F st' e' (j + 1) := by
  show (if _ then _ else _) = _
  rw [if_neg h, e]
theorem itm_le {tx : Nat → Nat} {l : Nat} {st : PS} {p e c q : Nat} (hp : p ≤ l) (he : e ≤ l) (h : itm tx l st p e c = .inl q) : q ≤ l := by
  unfold itm at h
  by_cases c114 : c = 114
  · rw [if_pos c114] at h
    by_cases d : st.1.2 = 10
    · rw [if_pos d] at h; exact inl_le h hp
    · rw [if_neg d] at h
      cases e1 : prR tx l e with
      | inl q => rw [e1] at h; exact inl_le h (prR_le he e1)
      | inr v => rw [e1] at h; cases h
  rw [if_neg c114] at h
  by_cases c112 : c = 112
  · rw [if_pos c112] at h
    by_cases d : pN st.2.1 = 6
    · rw [if_pos d] at h; exact inl_le h hp
    · rw [if_neg d] at h
      cases e1 : prP tx l e with
      | inl q => rw [e1] at h; exact inl_le h (prP_le he e1)
      | inr v => rw [e1] at h; cases h
  rw [if_neg c112] at h
  by_cases c102 : c = 102
  · rw [if_pos c102] at h
    by_cases d : st.2.2.1 = true
    · rw [if_pos d] at h; exact inl_le h hp
    · rw [if_neg d] at h
      cases e1 : prF tx l e with
      | inl q => rw [e1] at h; exact inl_le h (prF_le he e1)
      | inr v => rw [e1] at h; cases h
  rw [if_neg c102] at h
  by_cases c119 : c = 119
  · rw [if_pos c119] at h
    by_cases d : st.2.2.2.1 = true
    · rw [if_pos d] at h; exact inl_le h hp
    · rw [if_neg d] at h
      cases e1 : prW tx l e with
      | inl q => rw [e1] at h; exact inl_le h (prW_le he e1)
      | inr v => rw [e1] at h; cases h
  rw [if_neg c119] at h
  by_cases c111 : c = 111
  · rw [if_pos c111] at h
    by_cases d : st.2.2.2.2 = true
    · rw [if_pos d] at h; exact inl_le h hp
    · rw [if_neg d] at h
      cases e1 : prO tx l e with
      | inl q => rw [e1] at h; exact inl_le h (prO_le he e1)
      | inr v => rw [e1] at h; cases h
  rw [if_neg c111] at h
  exact inl_le h hp
theorem item_le {tx : Nat → Nat} {l : Nat} {st : PS} {i q : Nat} (hi : i ≤ l) (h : item tx l st i = .inl q) : q ≤ l := by
  obtain ⟨k1, k2, -⟩ := tkn_ok tx hi
  unfold item at h
  by_cases c : (tkn tx l i).2.2.1 = 2
  · rw [if_pos c] at h; exact itm_le k1 k2 h
  · rw [if_neg c] at h; exact inl_le h k1
theorem hous_le {tx : Nat → Nat} {l : Nat} : ∀ (F : Nat) (st : PS) (i j q : Nat), i ≤ l → PSB st → hous tx l F st i j = .inl q → q ≤ l
  | 0, st, i, j, q, hi, hB, h => inl_le h (Nat.zero_le _)
  | F + 1, st, i, j, q, hi, hB, h => by
    by_cases c : (tkn tx l i).2.2.1 = 0
    · rw [hous_e c] at h; cases h
    · cases e : item tx l st i with
      | inl p => rw [hous_l c e] at h; exact inl_le h (item_le hi e)
      | inr v =>
        obtain ⟨st', e'⟩ := v
        rw [hous_r c e] at h
        obtain ⟨g1, g2, g3⟩ := item_ok hi hB e
        exact hous_le F st' e' (j + 1) q g3 g1 h
def CS (st : PS) (b0 b1 b2 rate wrap : Int32) (days firsts seconds : Nat → Int32) (size start : Int32) (cd cf cs : Nat → Int32) (csz : Int32) : Prop :=
  HC st.1.1 st.1.2 rate wrap size days firsts seconds ∧ PC st.2.1 start cd cf cs csz ∧ b0 = bI st.2.2.1 ∧ b1 = bI st.2.2.2.1 ∧ b2 = bI st.2.2.2.2
section
variable {tx : Nat → Nat} {l : Nat} {f : Nat → Int32}
theorem x_readLoop (hT : TXT tx l f) {Q : Int32 → Int32 → Int32 → Int32 → Int32 → Int32 → Int32 → Int32 → Int32 → Int32 → (Nat → Int32) → (Nat → Int32) → (Nat → Int32) → Int32 → Int32 → (Nat → Int32) → (Nat → Int32) → (Nat → Int32) → Int32 → Prop} : ∀ (F : Nat) (st : PS) (i j : Nat) (pl tk nu b0 b1 b2 rate wrap : Int32) (days firsts seconds : Nat → Int32) (size start : Int32) (cd cf cs : Nat → Int32) (csz : Int32), i ≤ l → l - i < F → j ≤ i → PSB st → CS st b0 b1 b2 rate wrap days firsts seconds size start cd cf cs csz →
    (∀ p, hous tx l F st i j = .inl p → ∀ (a1 a2 a3 a4 a5 a6 a7 a8 : Int32) (a9 a10 a11 : Nat → Int32) (a12 a13 : Int32) (a14 a15 a16 : Nat → Int32) (a17 : Int32), Q (-10 - nI p) a1 (nI p) a2 a3 a4 a5 a6 a7 a8 a9 a10 a11 a12 a13 a14 a15 a16 a17) →
    (∀ st' j', hous tx l F st i j = .inr (st', j') → PSB st' → j' ≤ 120 → ∀ (a1 a2 a3 a4 b0 b1 b2 rate wrap : Int32) (days firsts seconds : Nat → Int32) (size start : Int32) (cd cf cs : Nat → Int32) (csz : Int32), CS st' b0 b1 b2 rate wrap days firsts seconds size start cd cf cs csz → Q (nI j') a1 a2 a3 a4 b0 b1 b2 rate wrap days firsts seconds size start cd cf cs csz) →
    wp_X7_read_h6 f (nI l) Q F (nI j) (nI i) pl tk nu b0 b1 b2 rate wrap days firsts seconds size start cd cf cs csz := by
  have hl := hT.1
  intro F
  induction F with
  | zero => intro st i j pl tk nu b0 b1 b2 rate wrap days firsts seconds size start cd cf cs csz h1 h2; omega
  | succ F ih =>
    intro st i j pl tk nu b0 b1 b2 rate wrap days firsts seconds size start cd cf cs csz hi hF hj hB hC hQ0 hQ1
    obtain ⟨k1, k2, k3, k4, k5⟩ := tkn_ok tx hi
    have h255 := fun h => tkn_255 hT (i := i) h
    obtain ⟨hC1, hC2, hC3, hC4, hC5⟩ := hC
    have hz1 := hC1.1
    have hz2 := hC2.1
    subst hz1; subst hz2; subst hC3; subst hC4; subst hC5
    rw [wp_X7_read_h6]
    unfold wp_X7_read_b122 wp_X7_read_b135
    refine bLT 120 j rfl rfl (by decide) (by omega) (fun q => by omega) (fun _ => ?_)
    refine x_nextToken hT hi (fun num hnum => ?_)
    have hz : ∀ x : Int32, x = nI j + 1 → x = nI (j + 1) := fun x hx => by rw [hx]; exact nI_1 j
    have hfault : ∀ p, item tx l st i = .inl p → ¬ (tkn tx l i).2.2.1 = 0 → ∀ (a1 a2 a3 a4 a5 a6 a7 a8 : Int32) (a9 a10 a11 : Nat → Int32) (a12 a13 : Int32) (a14 a15 a16 : Nat → Int32) (a17 : Int32), Q (-10 - nI p) a1 (nI p) a2 a3 a4 a5 a6 a7 a8 a9 a10 a11 a12 a13 a14 a15 a16 a17 := fun p e h0 => hQ0 p (hous_l h0 e)
    have hgo : ∀ st' e', item tx l st i = .inr (st', e') → ¬ (tkn tx l i).2.2.1 = 0 → ∀ (pl tk nu b0 b1 b2 rate wrap : Int32) (days firsts seconds : Nat → Int32) (size start : Int32) (cd cf cs : Nat → Int32) (csz : Int32), CS st' b0 b1 b2 rate wrap days firsts seconds size start cd cf cs csz → ∀ x : Int32, x = nI j + 1 → wp_X7_read_h6 f (nI l) Q F x (nI e') pl tk nu b0 b1 b2 rate wrap days firsts seconds size start cd cf cs csz := by
      intro st' e' e h0 pl tk nu b0 b1 b2 rate wrap days firsts seconds size start cd cf cs csz hC' x hx
      obtain ⟨g1, g2, g3⟩ := item_ok hi hB e
      rw [hz x hx]
      refine ih st' e' (j + 1) pl tk nu b0 b1 b2 rate wrap days firsts seconds size start cd cf cs csz g3 (by omega) (by omega) g1 hC' ?_ ?_
      · intro p hp; rw [← hous_r (F := F) (j := j) h0 e] at hp; exact hQ0 p hp
      · intro st'' j'' hp; rw [← hous_r (F := F) (j := j) h0 e] at hp; exact hQ1 st'' j'' hp
    have kEnd := cTk_e k3 h255
    have key := fun (c : Nat) (hc : c < 1000) => cTk_2 (c := c) k3 h255 hc
    have hn : st.1.2 ≤ 10 := hB.1.1
    refine ⟨fun q => ?_, fun q => ?_, fun q => ?_, fun q => ?_, fun q => ?_, fun q => ?_, fun q1 q2 q3 q4 q5 q6 => ?_⟩
    · have h0 := kEnd.mp q
      exact hQ1 st j (hous_e h0) hB (by omega) _ _ _ _ _ _ _ _ _ _ _ _ _ _ _ _ _ _ ⟨hC1, hC2, rfl, rfl, rfl⟩
    · obtain ⟨t1, t2⟩ := (key 102 (by decide)).mp q
      have h0 : ¬ (tkn tx l i).2.2.1 = 0 := by omega
      have hit : item tx l st i = itm tx l st (tkn tx l i).1 (tkn tx l i).2.1 102 := by unfold item; rw [if_pos t1, t2]
      refine x_readRate hT k2 (fun hb => is0 (hfault _ ?_ h0 _ _ _ _ _ _ _ _ _ _ _ _ _ _ _ _ _)) (fun hb p e1 at' tk nu => is0 (hfault p ?_ h0 _ _ _ _ _ _ _ _ _ _ _ _ _ _ _ _ _)) (fun hb v e e1 pl tk nu => is1 (hgo ((hRul st.1.1 v (hWrap st.1.1), st.1.2), st.2.1, (true, st.2.2.2.1, st.2.2.2.2)) e ?_ h0 _ _ _ _ _ _ _ _ _ _ _ _ _ _ _ _ _ ?_))
      · rw [hit]; unfold itm; rw [if_neg (by decide), if_neg (by decide), if_pos rfl, if_pos hb]
      · rw [hit]; unfold itm; rw [if_neg (by decide), if_neg (by decide), if_pos rfl, if_neg (by rw [hb]; decide), e1]
      · rw [hit]; unfold itm; rw [if_neg (by decide), if_neg (by decide), if_pos rfl, if_neg (by rw [hb]; decide), e1]
      · exact ⟨⟨rfl, rfl, hC1.2.2.1, hC1.2.2.2⟩, hC2, rfl, rfl, rfl⟩
    · obtain ⟨t1, t2⟩ := (key 111 (by decide)).mp q
      have h0 : ¬ (tkn tx l i).2.2.1 = 0 := by omega
      have hit : item tx l st i = itm tx l st (tkn tx l i).1 (tkn tx l i).2.1 111 := by unfold item; rw [if_pos t1, t2]
      refine x_readStart hT k2 (fun hb => is0 (hfault _ ?_ h0 _ _ _ _ _ _ _ _ _ _ _ _ _ _ _ _ _)) (fun hb p e1 at' tk nu => is0 (hfault p ?_ h0 _ _ _ _ _ _ _ _ _ _ _ _ _ _ _ _ _)) (fun hb v e e1 pl tk nu => is1 (hgo (st.1, pSta st.2.1 v, (st.2.2.1, st.2.2.2.1, true)) e ?_ h0 _ _ _ _ _ _ _ _ _ _ _ _ _ _ _ _ _ ?_))
      · rw [hit]; unfold itm; rw [if_neg (by decide), if_neg (by decide), if_neg (by decide), if_neg (by decide), if_pos rfl, if_pos hb]
      · rw [hit]; unfold itm; rw [if_neg (by decide), if_neg (by decide), if_neg (by decide), if_neg (by decide), if_pos rfl, if_neg (by rw [hb]; decide), e1]
      · rw [hit]; unfold itm; rw [if_neg (by decide), if_neg (by decide), if_neg (by decide), if_neg (by decide), if_pos rfl, if_neg (by rw [hb]; decide), e1]
      · exact ⟨hC1, ⟨rfl, rfl, hC2.2.2⟩, rfl, rfl, rfl⟩
    · obtain ⟨t1, t2⟩ := (key 112 (by decide)).mp q
      have h0 : ¬ (tkn tx l i).2.2.1 = 0 := by omega
      have hit : item tx l st i = itm tx l st (tkn tx l i).1 (tkn tx l i).2.1 112 := by unfold item; rw [if_pos t1, t2]
      refine x_readChange hT k2 hB.2 hC2 (fun hb => is0 (hfault _ ?_ h0 _ _ _ _ _ _ _ _ _ _ _ _ _ _ _ _ _)) (fun hb p e1 at' tk nu => is0 (hfault p ?_ h0 _ _ _ _ _ _ _ _ _ _ _ _ _ _ _ _ _)) (fun hb d w t e e1 pl tk nu D F' G hc' => is1 (hgo (st.1, pIns st.2.1 d w t, st.2.2) e ?_ h0 _ _ _ _ _ _ _ _ _ _ _ _ _ _ _ _ _ ?_))
      · rw [hit]; unfold itm; rw [if_neg (by decide), if_pos rfl, if_pos hb]
      · rw [hit]; unfold itm; rw [if_neg (by decide), if_pos rfl, if_neg (by omega), e1]
      · rw [hit]; unfold itm; rw [if_neg (by decide), if_pos rfl, if_neg (by omega), e1]
      · exact ⟨hC1, hc', rfl, rfl, rfl⟩
    · obtain ⟨t1, t2⟩ := (key 114 (by decide)).mp q
      have h0 : ¬ (tkn tx l i).2.2.1 = 0 := by omega
      have hit : item tx l st i = itm tx l st (tkn tx l i).1 (tkn tx l i).2.1 114 := by unfold item; rw [if_pos t1, t2]
      refine x_readReading hT k2 hn hC1 (fun hb => is0 (hfault _ ?_ h0 _ _ _ _ _ _ _ _ _ _ _ _ _ _ _ _ _)) (fun hb p e1 at' tk nu => is0 (hfault p ?_ h0 _ _ _ _ _ _ _ _ _ _ _ _ _ _ _ _ _)) (fun hb d c w e e1 pl tk nu D F' G hc' => is1 (hgo ((hIns st.1.1 (pos st.1.1 st.1.2 d) d c w, st.1.2 + 1), st.2) e ?_ h0 _ _ _ _ _ _ _ _ _ _ _ _ _ _ _ _ _ ?_))
      · rw [hit]; unfold itm; rw [if_pos rfl, if_pos hb]
      · rw [hit]; unfold itm; rw [if_pos rfl, if_neg (by omega), e1]
      · rw [hit]; unfold itm; rw [if_pos rfl, if_neg (by omega), e1]
      · exact ⟨hc', hC2, rfl, rfl, rfl⟩
    · obtain ⟨t1, t2⟩ := (key 119 (by decide)).mp q
      have h0 : ¬ (tkn tx l i).2.2.1 = 0 := by omega
      have hit : item tx l st i = itm tx l st (tkn tx l i).1 (tkn tx l i).2.1 119 := by unfold item; rw [if_pos t1, t2]
      refine x_readWrap hT k2 (fun hb => is0 (hfault _ ?_ h0 _ _ _ _ _ _ _ _ _ _ _ _ _ _ _ _ _)) (fun hb p e1 at' tk nu => is0 (hfault p ?_ h0 _ _ _ _ _ _ _ _ _ _ _ _ _ _ _ _ _)) (fun hb v e e1 pl tk nu => is1 (hgo ((hRul st.1.1 (hRate st.1.1) v, st.1.2), st.2.1, (st.2.2.1, true, st.2.2.2.2)) e ?_ h0 _ _ _ _ _ _ _ _ _ _ _ _ _ _ _ _ _ ?_))
      · rw [hit]; unfold itm; rw [if_neg (by decide), if_neg (by decide), if_neg (by decide), if_pos rfl, if_pos hb]
      · rw [hit]; unfold itm; rw [if_neg (by decide), if_neg (by decide), if_neg (by decide), if_pos rfl, if_neg (by rw [hb]; decide), e1]
      · rw [hit]; unfold itm; rw [if_neg (by decide), if_neg (by decide), if_neg (by decide), if_pos rfl, if_neg (by rw [hb]; decide), e1]
      · exact ⟨⟨rfl, hC1.2.1, rfl, hC1.2.2.2⟩, hC2, rfl, rfl, rfl⟩
    · refine is0 (hfault (tkn tx l i).1 ?_ (fun c => q1 (kEnd.mpr c)) _ _ _ _ _ _ _ _ _ _ _ _ _ _ _ _ _)
      unfold item
      by_cases c : (tkn tx l i).2.2.1 = 2
      · rw [if_pos c]
        unfold itm
        rw [if_neg (fun d => q5 ((key 114 (by decide)).mpr ⟨c, d⟩)), if_neg (fun d => q4 ((key 112 (by decide)).mpr ⟨c, d⟩)), if_neg (fun d => q2 ((key 102 (by decide)).mpr ⟨c, d⟩)), if_neg (fun d => q6 ((key 119 (by decide)).mpr ⟨c, d⟩)), if_neg (fun d => q3 ((key 111 (by decide)).mpr ⟨c, d⟩))]
      · rw [if_neg c]
end
