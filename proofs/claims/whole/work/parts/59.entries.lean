/-! ===== entries: inserted, removed, copied ===== -/
def ins {α : Type} (f : Nat → α) (k : Nat) (v : α) (i : Nat) : α := if i < k then f i else if i = k then v else f (i - 1)
def rem {α : Type} (f : Nat → α) (k : Nat) (i : Nat) : α := if i < k then f i else f (i + 1)
def ip (d : Nat → Int32) (day : Int32) : Nat → Nat
  | 0 => 0
  | k + 1 => if d k ≤ day then k + 1 else ip d day k
theorem ip_le (d : Nat → Int32) (day : Int32) : ∀ n, ip d day n ≤ n
  | 0 => Nat.le_refl _
  | n + 1 => by
    have := ip_le d day n
    unfold ip
    split <;> omega
theorem ip_congr {d d' : Nat → Int32} {day : Int32} : ∀ n, (∀ i, i < n → d i = d' i) → ip d day n = ip d' day n
  | 0, _ => rfl
  | n + 1, h => by
    unfold ip
    rw [h n (by omega), ip_congr n (fun i hi => h i (by omega))]
theorem ins_lt {α : Type} {f : Nat → α} {k i : Nat} {v : α} (h : i < k) : ins f k v i = f i := if_pos h
theorem ins_eq {α : Type} {f : Nat → α} {k : Nat} {v : α} : ins f k v k = v := by unfold ins; rw [if_neg (Nat.lt_irrefl k), if_pos rfl]
theorem ins_gt {α : Type} {f : Nat → α} {k i : Nat} {v : α} (h : k < i) : ins f k v i = f (i - 1) := by unfold ins; rw [if_neg (by omega), if_neg (by omega)]
theorem ins_nI {f : Nat → Nat} {g : Nat → Int32} {n k v i : Nat} (hk : k ≤ n) (hi : i < n + 1) (h : ∀ j, j < n → g j = nI (f j)) : ins g k (nI v) i = nI (ins f k v i) := by
  unfold ins
  by_cases c : i < k
  · rw [if_pos c, if_pos c]; exact h i (by omega)
  · rw [if_neg c, if_neg c]
    by_cases d : i = k
    · rw [if_pos d, if_pos d]
    · rw [if_neg d, if_neg d]; exact h (i - 1) (by omega)
theorem x_has {N n : Nat} {p : Int32} {Q : Int32 → Prop} (h1 : ¬ p < 0 → ¬ nI n ≤ p → Q 1) (h0 : (p < 0 ∨ nI n ≤ p) → Q 0) : wp_X0_has N (nI n) p Q := by
  unfold wp_X0_has wp_X0_has_b16 wp_X0_has_b17
  exact ⟨fun a => ⟨Or.inl rfl, h0 (Or.inl a)⟩, fun a => ⟨fun b => ⟨Or.inl rfl, h0 (Or.inr b)⟩, fun b => ⟨Or.inr rfl, h1 a b⟩⟩⟩
theorem below {n : Nat} (hn : n < 2147483648) {p : Int32} (h1 : ¬ p < 0) (h2 : ¬ nI n ≤ p) : ∃ j : Nat, j < n ∧ p = nI j := by
  obtain ⟨j, hj, rfl⟩ := nI_of h1
  refine ⟨j, ?_, rfl⟩
  rcases Nat.lt_or_ge j n with q | q
  · exact q
  · exact absurd ((nI_leI hn hj).mpr q) h2
theorem x_put {N n k : Nat} (hN : N < 2147483648) (hn : n ≤ N) (hk : k < n) {d f g : Nat → Int32} {p2 p3 p4 : Int32} {Q : (Nat → Int32) → (Nat → Int32) → (Nat → Int32) → Prop} (hQ : Q (upd d k p2) (upd f k p3) (upd g k p4)) : wp_X0_put N (nI n) d f g (nI k) p2 p3 p4 Q := by
  unfold wp_X0_put
  refine x_has (fun _ _ => ⟨fun _ => ?_, fun q => absurd q (by decide)⟩) (fun q => ?_)
  · rw [nI_cl (by omega)]
    exact ⟨vin (by omega) hN, vin (by omega) hN, vin (by omega) hN, hQ⟩
  · exfalso
    rcases q with q | q
    · exact nI_pos (by omega) q
    · exact nI_ge hk (by omega) q
theorem x_isFull {N n : Nat} (hN : N < 2147483648) (hn : n < 2147483648) {Q : Int32 → Prop} (h1 : N ≤ n → Q 1) (h0 : n < N → Q 0) : wp_X0_isFull N (nI n) Q := by
  unfold wp_X0_isFull wp_X0_isFull_b17
  exact bLT n N rfl rfl hn hN (fun q => ⟨Or.inl rfl, h0 q⟩) (fun q => ⟨Or.inr rfl, h1 q⟩)
theorem x_insert {N n : Nat} (hN : N < 2147483647) (hn : n < N) {d f g : Nat → Int32} {p1 p2 p3 : Int32} {Q : Int32 → (Nat → Int32) → (Nat → Int32) → (Nat → Int32) → Int32 → Prop}
    (hQ : ∀ d' f' g' : Nat → Int32, (∀ i, i < n + 1 → d' i = ins d (ip d p1 n) p1 i ∧ f' i = ins f (ip d p1 n) p2 i ∧ g' i = ins g (ip d p1 n) p3 i) → Q (nI (ip d p1 n)) d' f' g' (nI (n + 1))) : wp_X0_insert N d f g (nI n) p1 p2 p3 Q := by
  unfold wp_X0_insert
  refine x_isFull (by omega) (by omega) (fun q => by omega) (fun _ => ⟨fun _ => ?_, fun q => absurd rfl q⟩)
  intro y hy
  rw [nI_addL] at hy
  subst hy
  have hstop : ∀ (k : Nat) (d' f' g' : Nat → Int32), k ≤ n → ip d p1 n = k → (∀ i, i < k → d' i = d i ∧ f' i = f i ∧ g' i = g i) → (∀ i, k < i → i < n + 1 → d' i = d (i - 1) ∧ f' i = f (i - 1) ∧ g' i = g (i - 1)) → wp_X0_insert_b83 N Q p1 p2 p3 (nI k) d' f' g' (nI (n + 1)) := by
    intro k d' f' g' hk hip i1 i2
    unfold wp_X0_insert_b83
    refine x_put (by omega) (by omega) (by omega) ?_
    rw [← hip]
    refine hQ _ _ _ (fun i hi => ?_)
    rw [hip]
    rcases Nat.lt_trichotomy i k with c | c | c
    · rw [upd_n (by omega), upd_n (by omega), upd_n (by omega), ins_lt c, ins_lt c, ins_lt c]; exact i1 i c
    · subst c
      rw [upd_s, upd_s, upd_s, ins_eq, ins_eq, ins_eq]; exact ⟨rfl, rfl, rfl⟩
    · rw [upd_n (by omega), upd_n (by omega), upd_n (by omega), ins_gt c, ins_gt c, ins_gt c]; exact i2 i c hi
  have hloop : ∀ (k : Nat) (d' f' g' : Nat → Int32), k ≤ n → ip d p1 n = ip d p1 k → (∀ i, i < k → d' i = d i ∧ f' i = f i ∧ g' i = g i) → (∀ i, k < i → i < n + 1 → d' i = d (i - 1) ∧ f' i = f (i - 1) ∧ g' i = g (i - 1)) → wp_X0_insert_h26 N Q (k + 1) p1 p2 p3 (nI k) d' f' g' (nI (n + 1)) := by
    intro k
    induction k with
    | zero =>
      intro d' f' g' hk hip i1 i2
      rw [wp_X0_insert_h26]
      exact ⟨fun _ => hstop 0 d' f' g' hk hip i1 i2, fun q => absurd (show nI 0 ≤ 0 by decide) q⟩
    | succ k ih =>
      intro d' f' g' hk hip i1 i2
      rw [wp_X0_insert_h26]
      dsimp only
      rw [nI_pred, nI_cl (by omega)]
      obtain ⟨e1, e2, e3⟩ := i1 k (by omega)
      have hu : ip d p1 (k + 1) = if d k ≤ p1 then k + 1 else ip d p1 k := rfl
      refine ⟨fun q => absurd q (nI_nle (by omega) (by omega)), fun _ => ⟨vin (by omega) (by omega), fun q => ?_, fun q => ⟨vin (by omega) (by omega), vin (by omega) (by omega), vin (by omega) (by omega), ?_⟩⟩⟩
      · rw [e1] at q
        rw [if_pos q] at hu
        exact hstop (k + 1) d' f' g' hk (by rw [hip, hu]) i1 i2
      · rw [e1] at q
        rw [if_neg q] at hu
        refine x_put (by omega) (by omega) (by omega) ?_
        intro z hz
        rw [pk_m1] at hz
        subst hz
        refine ih _ _ _ (by omega) (by rw [hip, hu]) (fun i hi => ?_) (fun i h1 h2 => ?_)
        · rw [upd_n (by omega), upd_n (by omega), upd_n (by omega)]; exact i1 i (by omega)
        · by_cases c : i = k + 1
          · subst c
            rw [upd_s, upd_s, upd_s, Nat.add_sub_cancel]; exact ⟨e1, e2, e3⟩
          · rw [upd_n c, upd_n c, upd_n c]; exact i2 i (by omega) h2
  exact ⟨n + 1, hloop n d f g (Nat.le_refl _) rfl (fun i _ => ⟨rfl, rfl, rfl⟩) (fun i h1 h2 => by omega)⟩
theorem nI_Ladd (n a : Nat) : (OfNat.ofNat n : Int32) + nI a = nI ((OfNat.ofNat n : Nat) + a) := nI_add n a
theorem m_comes {n : Nat} (hn : n < 10) {row : Nat → Int32} (h0 : row 0 = nI n) {p1 p2 p3 : Int32} {Q : Int32 → (Nat → Int32) → Prop}
    (hQ : ∀ row' : Nat → Int32, row' 0 = nI (n + 1) → row' 1 = row 1 → row' 2 = row 2 → (∀ i, i < n + 1 → row' (3 + i) = ins (fun j => row (3 + j)) (ip (fun j => row (3 + j)) p1 n) p1 i ∧ row' (13 + i) = ins (fun j => row (13 + j)) (ip (fun j => row (3 + j)) p1 n) p2 i ∧ row' (23 + i) = ins (fun j => row (23 + j)) (ip (fun j => row (3 + j)) p1 n) p3 i) → Q (nI (ip (fun j => row (3 + j)) p1 n)) row') : wp_X9_comes 33 row p1 p2 p3 Q := by
  unfold wp_X9_comes
  refine ⟨vin (n := 0) (by decide) (by decide), ?_⟩
  intro y hy
  have hy' : y = nI n := by rw [hy]; exact h0
  subst hy'
  have e0 : (0 : Int32).toNatClampNeg = 0 := rfl
  have hstop : ∀ (k : Nat) (r : Nat → Int32), k ≤ n → ip (fun j => row (3 + j)) p1 n = k → (∀ j, j < 3 → r j = row j) → (∀ i, i < k → r (3 + i) = row (3 + i) ∧ r (13 + i) = row (13 + i) ∧ r (23 + i) = row (23 + i)) → (∀ i, k < i → i < n + 1 → r (3 + i) = row (3 + (i - 1)) ∧ r (13 + i) = row (13 + (i - 1)) ∧ r (23 + i) = row (23 + (i - 1))) → wp_X9_comes_b74 33 Q p1 p2 p3 (nI k) r := by
    intro k r hk hip i0 i1 i2
    unfold wp_X9_comes_b74
    rw [nI_Ladd, nI_Ladd, nI_Ladd, nI_cl (show 3 + k < 2147483648 by omega), nI_cl (show 13 + k < 2147483648 by omega), nI_cl (show 23 + k < 2147483648 by omega), e0]
    refine ⟨vin (show 3 + k < 33 by omega) (by decide), vin (show 13 + k < 33 by omega) (by decide), vin (show 23 + k < 33 by omega) (by decide), vin (n := 0) (by decide) (by decide), ?_⟩
    intro y hy z hz
    have hy' : y = nI n := by
      rw [hy]
      show upd (upd (upd r (3 + k) p1) (13 + k) p2) (23 + k) p3 0 = _
      rw [upd_n (by omega), upd_n (by omega), upd_n (by omega), i0 0 (by decide), h0]
    subst hy'
    rw [nI_addL] at hz
    subst hz
    refine ⟨vin (n := 0) (by decide) (by decide), ?_⟩
    rw [← hip]
    refine hQ _ (upd_s _ _ _) ?_ ?_ (fun i hi => ?_)
    · rw [hip]
      show upd (upd (upd (upd r (3 + k) p1) (13 + k) p2) (23 + k) p3) 0 _ 1 = _
      rw [upd_n (by omega), upd_n (by omega), upd_n (by omega), upd_n (by omega), i0 1 (by decide)]
    · rw [hip]
      show upd (upd (upd (upd r (3 + k) p1) (13 + k) p2) (23 + k) p3) 0 _ 2 = _
      rw [upd_n (by omega), upd_n (by omega), upd_n (by omega), upd_n (by omega), i0 2 (by decide)]
    · rw [hip]
      show upd (upd (upd (upd r (3 + k) p1) (13 + k) p2) (23 + k) p3) 0 _ (3 + i) = _ ∧ upd (upd (upd (upd r (3 + k) p1) (13 + k) p2) (23 + k) p3) 0 _ (13 + i) = _ ∧ upd (upd (upd (upd r (3 + k) p1) (13 + k) p2) (23 + k) p3) 0 _ (23 + i) = _
      rcases Nat.lt_trichotomy i k with c | c | c
      · rw [ins_lt c, ins_lt c, ins_lt c]
        rw [upd_n (by omega), upd_n (by omega), upd_n (by omega), upd_n (by omega), upd_n (by omega), upd_n (by omega), upd_n (by omega), upd_n (by omega), upd_n (by omega), upd_n (by omega), upd_n (by omega), upd_n (by omega)]
        exact i1 i c
      · subst c
        rw [ins_eq, ins_eq, ins_eq]
        rw [upd_n (by omega), upd_n (by omega), upd_n (by omega), upd_s, upd_n (by omega), upd_n (by omega), upd_s, upd_n (by omega), upd_s]
        exact ⟨rfl, rfl, rfl⟩
      · rw [ins_gt c, ins_gt c, ins_gt c]
        rw [upd_n (by omega), upd_n (by omega), upd_n (by omega), upd_n (by omega), upd_n (by omega), upd_n (by omega), upd_n (by omega), upd_n (by omega), upd_n (by omega), upd_n (by omega), upd_n (by omega), upd_n (by omega)]
        exact i2 i c hi
  have hloop : ∀ (k : Nat) (r : Nat → Int32), k ≤ n → ip (fun j => row (3 + j)) p1 n = ip (fun j => row (3 + j)) p1 k → (∀ j, j < 3 → r j = row j) → (∀ i, i < k → r (3 + i) = row (3 + i) ∧ r (13 + i) = row (13 + i) ∧ r (23 + i) = row (23 + i)) → (∀ i, k < i → i < n + 1 → r (3 + i) = row (3 + (i - 1)) ∧ r (13 + i) = row (13 + (i - 1)) ∧ r (23 + i) = row (23 + (i - 1))) → wp_X9_comes_h5 33 Q (k + 1) p1 p2 p3 (nI k) r := by
    intro k
    induction k with
    | zero =>
      intro r hk hip i0 i1 i2
      rw [wp_X9_comes_h5]
      exact ⟨fun _ => hstop 0 r hk hip i0 i1 i2, fun q => absurd (show nI 0 ≤ 0 by decide) q⟩
    | succ k ih =>
      intro r hk hip i0 i1 i2
      rw [wp_X9_comes_h5]
      dsimp only
      rw [nI_Ladd, nI_Ladd, nI_Ladd, nI_subL (by omega), nI_subL (by omega), nI_subL (by omega), nI_cl (show 3 + (k + 1) < 2147483648 by omega), nI_cl (show 13 + (k + 1) < 2147483648 by omega), nI_cl (show 23 + (k + 1) < 2147483648 by omega), nI_cl (show 3 + (k + 1) - 1 < 2147483648 by omega), nI_cl (show 13 + (k + 1) - 1 < 2147483648 by omega), nI_cl (show 23 + (k + 1) - 1 < 2147483648 by omega), show 3 + (k + 1) - 1 = 3 + k by omega, show 13 + (k + 1) - 1 = 13 + k by omega, show 23 + (k + 1) - 1 = 23 + k by omega]
      obtain ⟨e1, e2, e3⟩ := i1 k (by omega)
      have hu : ip (fun j => row (3 + j)) p1 (k + 1) = if row (3 + k) ≤ p1 then k + 1 else ip (fun j => row (3 + j)) p1 k := rfl
      refine ⟨fun q => absurd q (nI_nle (by omega) (by omega)), fun _ => ⟨vin (by omega) (by omega), fun q => ?_, fun q => ⟨vin (by omega) (by omega), ?_⟩⟩⟩
      · rw [e1] at q
        rw [if_pos q] at hu
        exact hstop (k + 1) r hk (by rw [hip, hu]) i0 i1 i2
      · rw [e1] at q
        rw [if_neg q] at hu
        intro y1 hy1
        refine ⟨vin (by omega) (by omega), vin (by omega) (by omega), ?_⟩
        intro y2 hy2
        refine ⟨vin (by omega) (by omega), vin (by omega) (by omega), ?_⟩
        intro y3 hy3
        refine ⟨vin (by omega) (by omega), ?_⟩
        intro z hz
        rw [pk_m1] at hz
        subst hz
        rw [e1] at hy1
        rw [upd_n (by omega), e2] at hy2
        rw [upd_n (by omega), upd_n (by omega), e3] at hy3
        refine ih _ (by omega) (by rw [hip, hu]) (fun j hj => ?_) (fun i hi => ?_) (fun i h1 h2 => ?_)
        · rw [upd_n (by omega), upd_n (by omega), upd_n (by omega)]; exact i0 j hj
        · rw [upd_n (by omega), upd_n (by omega), upd_n (by omega), upd_n (by omega), upd_n (by omega), upd_n (by omega), upd_n (by omega), upd_n (by omega), upd_n (by omega)]
          exact i1 i (by omega)
        · by_cases c : i = k + 1
          · subst c
            rw [upd_n (by omega), upd_n (by omega), upd_s, upd_n (by omega), upd_s, upd_s, Nat.add_sub_cancel]
            exact ⟨hy1, hy2, hy3⟩
          · rw [upd_n (by omega), upd_n (by omega), upd_n (by omega), upd_n (by omega), upd_n (by omega), upd_n (by omega), upd_n (by omega), upd_n (by omega), upd_n (by omega)]
            exact i2 i (by omega) h2
  exact ⟨n + 1, hloop n row (Nat.le_refl _) rfl (fun j _ => rfl) (fun i _ => ⟨rfl, rfl, rfl⟩) (fun i h1 h2 => by omega)⟩
theorem x_copy {N m : Nat} (hN : N < 2147483647) (hm : m ≤ N) {od oF og d f g : Nat → Int32} {sz : Int32} {Q : (Nat → Int32) → (Nat → Int32) → (Nat → Int32) → Int32 → Prop} (hQ : ∀ d f g : Nat → Int32, (∀ i, i < m → d i = od i ∧ f i = oF i ∧ g i = og i) → Q d f g (nI m)) : wp_X0_copy N N od oF og (nI m) d f g sz Q := by
  unfold wp_X0_copy
  intro y hy
  rw [if_neg (nI_nlt hm (by omega))] at hy
  subst hy
  have hloop : ∀ (e k : Nat) (d f g : Nat → Int32), k + e = m → (∀ i, i < k → d i = od i ∧ f i = oF i ∧ g i = og i) → wp_X0_copy_h18 N N od oF og (nI m) Q (e + 1) (nI k) d f g (nI m) := by
    intro e
    induction e with
    | zero =>
      intro k d f g hk i1
      have : k = m := by omega
      subst this
      rw [wp_X0_copy_h18]
      exact bLE k k rfl rfl (by omega) (by omega) (fun _ => hQ d f g i1) (fun q => by omega)
    | succ e ih =>
      intro k d f g hk i1
      rw [wp_X0_copy_h18]
      refine bLE m k rfl rfl (by omega) (by omega) (fun q => by omega) (fun _ => ?_)
      rw [nI_cl (by omega)]
      refine ⟨vin (by omega) (by omega), vin (by omega) (by omega), vin (by omega) (by omega), ?_⟩
      refine x_put (by omega) (by omega) (by omega) ?_
      intro z hz
      rw [nI_1] at hz
      subst hz
      refine ih (k + 1) _ _ _ (by omega) (fun i hi => ?_)
      by_cases c : i = k
      · subst c; rw [upd_s, upd_s, upd_s]; exact ⟨rfl, rfl, rfl⟩
      · rw [upd_n c, upd_n c, upd_n c]; exact i1 i (by omega)
  exact ⟨m + 1, hloop m 0 d f g (by omega) (fun i hi => absurd hi (Nat.not_lt_zero i))⟩
theorem x_remove {N n k : Nat} (hN : N < 2147483647) (hn : n ≤ N) (hk : k < n) {d f g : Nat → Int32} {Q : (Nat → Int32) → (Nat → Int32) → (Nat → Int32) → Int32 → Prop} (hQ : ∀ d' f' g' : Nat → Int32, (∀ i, i < n - 1 → d' i = rem d k i ∧ f' i = rem f k i ∧ g' i = rem g k i) → Q d' f' g' (nI (n - 1))) : wp_X0_remove N d f g (nI n) (nI k) Q := by
  unfold wp_X0_remove
  refine x_has (fun _ _ => ⟨fun _ => ?_, fun q => absurd q (by decide)⟩) (fun q => ?_)
  · have hloop : ∀ (e i : Nat) (d' f' g' : Nat → Int32), i + 1 + e = n → k ≤ i → (∀ j, j < i → d' j = rem d k j ∧ f' j = rem f k j ∧ g' j = rem g k j) → (∀ j, i ≤ j → j < n → d' j = d j ∧ f' j = f j ∧ g' j = g j) → wp_X0_remove_h11 N Q (e + 1) (nI i) d' f' g' (nI n) := by
      intro e
      induction e with
      | zero =>
        intro i d' f' g' hi hki i1 i2
        rw [wp_X0_remove_h11]
        dsimp only
        rw [nI_addL]
        refine bLE n (i + 1) rfl rfl (by omega) (by omega) (fun _ => ?_) (fun q => by omega)
        intro y hy
        rw [nI_subL (by omega)] at hy
        subst hy
        exact hQ d' f' g' (fun j hj => i1 j (by omega))
      | succ e ih =>
        intro i d' f' g' hi hki i1 i2
        rw [wp_X0_remove_h11]
        dsimp only
        rw [nI_addL]
        refine bLE n (i + 1) rfl rfl (by omega) (by omega) (fun q => by omega) (fun _ => ?_)
        rw [nI_cl (show i + 1 < 2147483648 by omega)]
        refine ⟨vin (by omega) (by omega), vin (by omega) (by omega), vin (by omega) (by omega), ?_⟩
        refine x_put (by omega) (by omega) (by omega) ?_
        intro z hz
        subst hz
        refine ih (i + 1) _ _ _ (by omega) (by omega) (fun j hj => ?_) (fun j h1 h2 => ?_)
        · by_cases c : j = i
          · subst c
            rw [upd_s, upd_s, upd_s]
            unfold rem
            rw [if_neg (by omega), if_neg (by omega), if_neg (by omega)]
            exact i2 (j + 1) (by omega) (by omega)
          · rw [upd_n c, upd_n c, upd_n c]; exact i1 j (by omega)
        · rw [upd_n (by omega), upd_n (by omega), upd_n (by omega)]; exact i2 j (by omega) h2
    refine ⟨n - k - 1 + 1, hloop (n - k - 1) k d f g (by omega) (Nat.le_refl _) (fun j hj => ?_) (fun j _ _ => ⟨rfl, rfl, rfl⟩)⟩
    unfold rem
    rw [if_pos hj, if_pos hj, if_pos hj]
    exact ⟨rfl, rfl, rfl⟩
  · exfalso
    rcases q with q | q
    · exact nI_pos (by omega) q
    · exact nI_ge hk (by omega) q
