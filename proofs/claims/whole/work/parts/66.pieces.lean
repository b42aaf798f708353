/-! ===== what the text tells: numbers, plates, ends; items ===== -/
def nnum (tx : Nat → Nat) (l i a b : Nat) : Nat ⊕ (Nat × Nat) := if (tkn tx l i).2.2.1 = 1 ∧ a ≤ (tkn tx l i).2.2.2 ∧ (tkn tx l i).2.2.2 ≤ b then .inr ((tkn tx l i).2.2.2, (tkn tx l i).2.1) else .inl (tkn tx l i).1
def nplt (tx : Nat → Nat) (l i : Nat) : Nat ⊕ (Nat × Nat) := if (tkn tx l i).2.2.1 = 2 ∧ 97 ≤ (tkn tx l i).2.2.2 ∧ (tkn tx l i).2.2.2 ≤ 104 then .inr ((tkn tx l i).2.2.2 - 97, (tkn tx l i).2.1) else .inl (tkn tx l i).1
def nend (tx : Nat → Nat) (l i : Nat) : Nat ⊕ (Nat × Nat) := if (tkn tx l i).2.2.1 = 2 ∧ (tkn tx l i).2.2.2 = 59 then .inr (0, (tkn tx l i).2.1) else .inl (tkn tx l i).1
theorem nnum_ok {tx : Nat → Nat} {l i a b v e : Nat} (hi : i ≤ l) (h : nnum tx l i a b = .inr (v, e)) : a ≤ v ∧ v ≤ b ∧ v ≤ 9999 ∧ i < e ∧ e ≤ l := by
  obtain ⟨k1, k2, k3, k4, k5⟩ := tkn_ok tx hi
  unfold nnum at h
  split at h
  · next c =>
    have h' := Prod.mk.inj (Sum.inr.inj h)
    obtain ⟨rfl, rfl⟩ := h'
    exact ⟨c.2.1, c.2.2, k5 c.1, k4 (by omega), k2⟩
  · cases h
theorem nplt_ok {tx : Nat → Nat} {l i v e : Nat} (hi : i ≤ l) (h : nplt tx l i = .inr (v, e)) : v < 8 ∧ i < e ∧ e ≤ l := by
  obtain ⟨k1, k2, k3, k4, k5⟩ := tkn_ok tx hi
  unfold nplt at h
  split at h
  · next c =>
    have h' := Prod.mk.inj (Sum.inr.inj h)
    obtain ⟨rfl, rfl⟩ := h'
    exact ⟨by omega, k4 (by omega), k2⟩
  · cases h
theorem nend_ok {tx : Nat → Nat} {l i v e : Nat} (hi : i ≤ l) (h : nend tx l i = .inr (v, e)) : i < e ∧ e ≤ l := by
  obtain ⟨k1, k2, k3, k4, k5⟩ := tkn_ok tx hi
  unfold nend at h
  split at h
  · next c =>
    have h' := Prod.mk.inj (Sum.inr.inj h)
    obtain ⟨rfl, rfl⟩ := h'
    exact ⟨k4 (by omega), k2⟩
  · cases h
theorem cTk_1 {k v : Nat} (hk : k < 4) : cTk k v = (-2 : Int32) ↔ k = 1 ∨ (k = 2 ∧ nI v = (-2 : Int32)) := by
  have : k = 0 ∨ k = 1 ∨ k = 2 ∨ k = 3 := by omega
  rcases this with rfl | rfl | rfl | rfl
  · exact ⟨fun q => absurd (show (-1 : Int32) = -2 from q) (by decide), fun q => by rcases q with q | q; cases q; cases q.1⟩
  · exact ⟨fun _ => Or.inl rfl, fun _ => rfl⟩
  · exact ⟨fun q => Or.inr ⟨rfl, q⟩, fun q => by rcases q with q | q; cases q; exact q.2⟩
  · exact ⟨fun q => absurd (show (-3 : Int32) = -2 from q) (by decide), fun q => by rcases q with q | q; cases q; cases q.1⟩
theorem nI_neg {n : Nat} {z : Int32} (h : n < 2147483648) (hz : z < 0) : ¬ nI n = z := by
  intro c
  rw [← c] at hz
  exact nI_pos h hz
/-- a token that is a letter of the text, in the class -/
theorem cTk_2 {k v c : Nat} (hk : k < 4) (hv : k = 2 → v ≤ 255) (hc : c < 1000) : cTk k v = nI c ↔ k = 2 ∧ v = c := by
  have : k = 0 ∨ k = 1 ∨ k = 2 ∨ k = 3 := by omega
  rcases this with rfl | rfl | rfl | rfl
  · exact ⟨fun q => absurd q.symm (nI_neg (z := -1) (by omega) (by decide)), fun q => by cases q.1⟩
  · exact ⟨fun q => absurd q.symm (nI_neg (z := -2) (by omega) (by decide)), fun q => by cases q.1⟩
  · have := hv rfl
    exact ⟨fun q => ⟨rfl, (nI_eq (by omega) (by omega)).mp q⟩, fun q => by rw [q.2]; rfl⟩
  · exact ⟨fun q => absurd q.symm (nI_neg (z := -3) (by omega) (by decide)), fun q => by cases q.1⟩
theorem cTk_e {k v : Nat} (hk : k < 4) (hv : k = 2 → v ≤ 255) : cTk k v = (-1 : Int32) ↔ k = 0 := by
  have : k = 0 ∨ k = 1 ∨ k = 2 ∨ k = 3 := by omega
  rcases this with rfl | rfl | rfl | rfl
  · exact ⟨fun _ => rfl, fun _ => rfl⟩
  · exact ⟨fun q => absurd (show (-2 : Int32) = -1 from q) (by decide), fun q => by cases q⟩
  · have := hv rfl
    exact ⟨fun q => absurd (show nI v = -1 from q) (nI_neg (by omega) (by decide)), fun q => by cases q⟩
  · exact ⟨fun q => absurd (show (-3 : Int32) = -1 from q) (by decide), fun q => by cases q⟩
theorem cTk_in {k v a b : Nat} (hk : k < 4) (hv : k = 2 → v ≤ 255) (ha : a < 1000) (hb : b < 1000) : (¬ cTk k v < nI a ∧ ¬ nI b < cTk k v) ↔ (k = 2 ∧ a ≤ v ∧ v ≤ b) := by
  have hneg : ∀ z : Int32, z < 0 → ¬ (¬ z < nI a ∧ ¬ nI b < z) := fun z hz q => q.1 (Int32.lt_of_lt_of_le hz (nI_pos' (by omega)))
  have : k = 0 ∨ k = 1 ∨ k = 2 ∨ k = 3 := by omega
  rcases this with rfl | rfl | rfl | rfl
  · exact ⟨fun q => absurd q (hneg (-1) (by decide)), fun q => by cases q.1⟩
  · exact ⟨fun q => absurd q (hneg (-2) (by decide)), fun q => by cases q.1⟩
  · have := hv rfl
    show (¬ nI v < nI a ∧ ¬ nI b < nI v) ↔ _
    rw [nI_ltI (by omega) (by omega), nI_ltI (by omega) (by omega)]
    omega
  · exact ⟨fun q => absurd q (hneg (-3) (by decide)), fun q => by cases q.1⟩
theorem mTk_0 {k v : Nat} (hk : k < 4) (hv : k = 2 → v ≤ 255) : mTk k v = (0 : Int32) ↔ k = 1 := by
  have : k = 0 ∨ k = 1 ∨ k = 2 ∨ k = 3 := by omega
  rcases this with rfl | rfl | rfl | rfl
  · exact ⟨fun q => absurd (show (-1 : Int32) = 0 from q) (by decide), fun q => by cases q⟩
  · exact ⟨fun _ => rfl, fun _ => rfl⟩
  · refine ⟨fun q => ?_, fun q => by cases q⟩
    have := hv rfl
    have q' : (if (97 ≤ v ∧ v ≤ 122) ∨ v = 59 then nI v else (-2 : Int32)) = 0 := q
    split at q'
    · exact absurd q' (nI_ne0 (by omega) (by omega))
    · exact absurd q' (by decide)
  · exact ⟨fun q => absurd (show (-2 : Int32) = 0 from q) (by decide), fun q => by cases q⟩
theorem mTk_2 {k v c : Nat} (hk : k < 4) (hv : k = 2 → v ≤ 255) (hc : (97 ≤ c ∧ c ≤ 122) ∨ c = 59) : mTk k v = nI c ↔ k = 2 ∧ v = c := by
  have : k = 0 ∨ k = 1 ∨ k = 2 ∨ k = 3 := by omega
  rcases this with rfl | rfl | rfl | rfl
  · exact ⟨fun q => absurd q.symm (nI_neg (z := -1) (by omega) (by decide)), fun q => by cases q.1⟩
  · exact ⟨fun q => absurd q.symm (nI_ne0 (by omega) (by omega)), fun q => by cases q.1⟩
  · have := hv rfl
    show (if (97 ≤ v ∧ v ≤ 122) ∨ v = 59 then nI v else (-2 : Int32)) = nI c ↔ _
    by_cases d : (97 ≤ v ∧ v ≤ 122) ∨ v = 59
    · rw [if_pos d]
      exact ⟨fun q => ⟨rfl, (nI_eq (by omega) (by omega)).mp q⟩, fun q => by rw [q.2]⟩
    · rw [if_neg d]
      exact ⟨fun q => absurd q.symm (nI_neg (z := -2) (by omega) (by decide)), fun q => by rw [q.2] at d; exact absurd hc d⟩
  · exact ⟨fun q => absurd q.symm (nI_neg (z := -2) (by omega) (by decide)), fun q => by cases q.1⟩
theorem mTk_in {k v : Nat} (hk : k < 4) (hv : k = 2 → v ≤ 255) : (¬ mTk k v < (97 : Int32) ∧ ¬ (104 : Int32) < mTk k v) ↔ (k = 2 ∧ 97 ≤ v ∧ v ≤ 104) := by
  have hneg : ∀ z : Int32, z ≤ 0 → ¬ (¬ z < (97 : Int32) ∧ ¬ (104 : Int32) < z) := fun z hz q => q.1 (Int32.lt_of_le_of_lt hz (by decide))
  have : k = 0 ∨ k = 1 ∨ k = 2 ∨ k = 3 := by omega
  rcases this with rfl | rfl | rfl | rfl
  · exact ⟨fun q => absurd q (hneg (-1) (by decide)), fun q => by cases q.1⟩
  · exact ⟨fun q => absurd q (hneg 0 (by decide)), fun q => by cases q.1⟩
  · have := hv rfl
    have e97 : (97 : Int32) = nI 97 := rfl
    have e104 : (104 : Int32) = nI 104 := rfl
    show (¬ (if (97 ≤ v ∧ v ≤ 122) ∨ v = 59 then nI v else (-2 : Int32)) < (97 : Int32) ∧ ¬ (104 : Int32) < (if (97 ≤ v ∧ v ≤ 122) ∨ v = 59 then nI v else (-2 : Int32))) ↔ _
    by_cases d : (97 ≤ v ∧ v ≤ 122) ∨ v = 59
    · rw [if_pos d, e97, e104, nI_ltI (by omega) (by omega), nI_ltI (by omega) (by omega)]
      omega
    · rw [if_neg d]
      exact ⟨fun q => absurd q (hneg (-2) (by decide)), fun q => by omega⟩
  · exact ⟨fun q => absurd q (hneg (-2) (by decide)), fun q => by cases q.1⟩
theorem nI_btw {v a b : Nat} (hv : v < 2147483648) (ha : a < 2147483648) (hb : b < 2147483648) : (¬ nI v < nI a ∧ ¬ nI b < nI v) ↔ (a ≤ v ∧ v ≤ b) := by
  rw [nI_ltI hv ha, nI_ltI hb hv]
  omega
section
variable {tx : Nat → Nat} {l : Nat} {f : Nat → Int32}
theorem tkn_255 (hT : TXT tx l f) {i : Nat} (h : (tkn tx l i).2.2.1 = 2) : (tkn tx l i).2.2.2 ≤ 255 := tks_255 hT h
theorem x_nextNumber (hT : TXT tx l f) {i : Nat} (hi : i ≤ l) {lo hi' : Int32} {a b : Nat} (ha : lo = nI a) (hb : hi' = nI b) (ha2 : a < 10000) (hb2 : b < 10000) {pl tk nu : Int32} {Q : Int32 → Int32 → Int32 → Int32 → Int32 → Prop}
    (h1 : ∀ v e, nnum tx l i a b = .inr (v, e) → ∀ tk nu, Q (nI v) (nI e) (nI (tkn tx l i).1) tk nu) (h0 : ∀ p, nnum tx l i a b = .inl p → ∀ at' tk nu, Q (-9) at' (nI p) tk nu) : wp_X7_nextNumber f (nI l) (nI i) pl tk nu lo hi' Q := by
  obtain ⟨k1, k2, k3, k4, k5⟩ := tkn_ok tx hi
  have h255 := fun h => tkn_255 hT (i := i) h
  unfold wp_X7_nextNumber wp_X7_nextNumber_b32 wp_X7_nextNumber_b34
  refine x_nextToken hT hi (fun num hnum => ?_)
  unfold nnum at h1 h0
  refine ⟨fun c => ?_, fun c => ?_⟩
  · refine h0 _ (if_neg (fun q => c ?_)) _ _ _
    rw [q.1]; rfl
  · have hk : (tkn tx l i).2.2.1 = 1 := by
      rcases (cTk_1 k3).mp c with q | q
      · exact q
      · have := h255 q.1
        exact absurd q.2 (nI_neg (by omega) (by decide))
    have hv := k5 hk
    rw [hnum hk, ha, hb]
    refine x_within (fun a1 a2 => ⟨fun q => absurd q (by decide), fun _ => ?_⟩) (fun q => ⟨fun _ => ?_, fun q => absurd rfl q⟩)
    · have := (nI_btw (v := (tkn tx l i).2.2.2) (a := a) (b := b) (by omega) (by omega) (by omega)).mp ⟨a1, a2⟩
      exact h1 _ _ (if_pos ⟨hk, this⟩) _ _
    · refine h0 _ (if_neg (fun q2 => ?_)) _ _ _
      have := (nI_btw (v := (tkn tx l i).2.2.2) (a := a) (b := b) (by omega) (by omega) (by omega)).mpr q2.2
      rcases q with q | q
      · exact this.1 q
      · exact this.2 q
theorem x_nextPlate (hT : TXT tx l f) {i : Nat} (hi : i ≤ l) {pl tk nu : Int32} {Q : Int32 → Int32 → Int32 → Int32 → Int32 → Prop}
    (h1 : ∀ v e, nplt tx l i = .inr (v, e) → ∀ tk nu, Q (nI v) (nI e) (nI (tkn tx l i).1) tk nu) (h0 : ∀ p, nplt tx l i = .inl p → ∀ at' tk nu, Q (-9) at' (nI p) tk nu) : wp_X7_nextPlate f (nI l) (nI i) pl tk nu Q := by
  obtain ⟨k1, k2, k3, k4, k5⟩ := tkn_ok tx hi
  have h255 := fun h => tkn_255 hT (i := i) h
  unfold wp_X7_nextPlate wp_X7_nextPlate_b30
  refine x_nextToken hT hi (fun num hnum => ?_)
  unfold nplt at h1 h0
  refine x_within (fun a1 a2 => ⟨fun q => absurd q (by decide), fun _ => ?_⟩) (fun q => ⟨fun _ => ?_, fun q => absurd rfl q⟩)
  · have hc := (cTk_in (a := 97) (b := 104) k3 h255 (by decide) (by decide)).mp ⟨a1, a2⟩
    have e : cTk (tkn tx l i).2.2.1 (tkn tx l i).2.2.2 - (97 : Int32) = nI ((tkn tx l i).2.2.2 - 97) := by
      rw [hc.1]
      exact nI_subL (n := 97) hc.2.1
    rw [e]
    exact h1 _ _ (if_pos hc) _ _
  · refine h0 _ (if_neg (fun q2 => ?_)) _ _ _
    have := (cTk_in (a := 97) (b := 104) k3 h255 (by decide) (by decide)).mpr q2
    rcases q with q | q
    · exact this.1 q
    · exact this.2 q
theorem x_nextEnds (hT : TXT tx l f) {i : Nat} (hi : i ≤ l) {pl tk nu : Int32} {Q : Int32 → Int32 → Int32 → Int32 → Int32 → Prop}
    (h1 : ∀ v e, nend tx l i = .inr (v, e) → ∀ pl tk nu, Q 1 (nI e) pl tk nu) (h0 : ∀ p, nend tx l i = .inl p → ∀ at' tk nu, Q 0 at' (nI p) tk nu) : wp_X7_nextEnds f (nI l) (nI i) pl tk nu Q := by
  obtain ⟨k1, k2, k3, k4, k5⟩ := tkn_ok tx hi
  have h255 := fun h => tkn_255 hT (i := i) h
  unfold wp_X7_nextEnds wp_X7_nextEnds_b18
  refine x_nextToken hT hi (fun num hnum => ?_)
  unfold nend at h1 h0
  have key := cTk_2 (c := 59) k3 h255 (by decide)
  refine ⟨fun c => ⟨Or.inl rfl, h0 _ (if_neg (fun q => c (key.mpr q))) _ _ _⟩, fun c => ⟨Or.inr rfl, h1 _ _ (if_pos (key.mp c)) _ _ _⟩⟩
theorem m_number (hT : TXT tx l f) {i : Nat} (hi : i ≤ l) {lo hi' : Int32} {a b : Nat} (ha : lo = nI a) (hb : hi' = nI b) (ha2 : a < 10000) (hb2 : b < 10000) {pl tk nu fa : Int32} {Q : Int32 → Int32 → Int32 → Int32 → Int32 → Int32 → Prop}
    (h1 : ∀ v e, nnum tx l i a b = .inr (v, e) → ∀ tk, Q 1 (nI e) (nI (tkn tx l i).1) tk (nI v) fa) (h0 : ∀ p, nnum tx l i a b = .inl p → ∀ at' pl tk nu, Q 0 at' pl tk nu (nI p)) : wp_X9_number (nI l) f (nI i) pl tk nu fa lo hi' Q := by
  obtain ⟨k1, k2, k3, k4, k5⟩ := tkn_ok tx hi
  have h255 := fun h => tkn_255 hT (i := i) h
  unfold wp_X9_number wp_X9_number_b23 wp_X9_number_b30 wp_X9_number_b35 wp_X9_fails
  refine m_next hT hi (fun num hnum => ?_)
  unfold nnum at h1 h0
  refine ⟨fun c => ⟨fun _ => ⟨Or.inl rfl, ?_⟩, fun q => absurd rfl q⟩, fun c => ?_⟩
  · refine h0 _ (if_neg (fun q => c ((mTk_0 k3 h255).mpr q.1))) _ _ _ _
  · have hk : (tkn tx l i).2.2.1 = 1 := (mTk_0 k3 h255).mp c
    have hv := k5 hk
    rw [hnum hk, ha, hb]
    refine m_in (fun a1 a2 => ⟨fun _ => ⟨Or.inr rfl, ?_⟩, fun q => absurd q (by decide)⟩) (fun q => ⟨fun q => absurd rfl q, fun _ => ⟨fun _ => ⟨Or.inl rfl, ?_⟩, fun q => absurd rfl q⟩⟩)
    · have := (nI_btw (v := (tkn tx l i).2.2.2) (a := a) (b := b) (by omega) (by omega) (by omega)).mp ⟨a1, a2⟩
      exact h1 _ _ (if_pos ⟨hk, this⟩) _
    · refine h0 _ (if_neg (fun q2 => ?_)) _ _ _ _
      have := (nI_btw (v := (tkn tx l i).2.2.2) (a := a) (b := b) (by omega) (by omega) (by omega)).mpr q2.2
      rcases q with q | q
      · exact this.1 q
      · exact this.2 q
theorem m_plate1 (hT : TXT tx l f) {i : Nat} (hi : i ≤ l) {pl tk nu fa : Int32} {Q : Int32 → Int32 → Int32 → Int32 → Int32 → Int32 → Prop}
    (h1 : ∀ v e, nplt tx l i = .inr (v, e) → ∀ tk, Q 1 (nI e) (nI (tkn tx l i).1) tk (nI v) fa) (h0 : ∀ p, nplt tx l i = .inl p → ∀ at' pl tk nu, Q 0 at' pl tk nu (nI p)) : wp_X9_plate1 (nI l) f (nI i) pl tk nu fa Q := by
  obtain ⟨k1, k2, k3, k4, k5⟩ := tkn_ok tx hi
  have h255 := fun h => tkn_255 hT (i := i) h
  unfold wp_X9_plate1 wp_X9_plate1_b36 wp_X9_plate1_b41 wp_X9_fails
  refine m_next hT hi (fun num hnum => ?_)
  unfold nplt at h1 h0
  intro x hx
  refine m_in (fun a1 a2 => ⟨fun _ => ⟨Or.inr rfl, ?_⟩, fun q => absurd q (by decide)⟩) (fun q => ⟨fun q => absurd rfl q, fun _ => ⟨fun _ => ⟨Or.inl rfl, ?_⟩, fun q => absurd rfl q⟩⟩)
  · have hc := (mTk_in k3 h255).mp ⟨a1, a2⟩
    have e : x = nI ((tkn tx l i).2.2.2 - 97) := by
      rw [hx, hc.1]
      show (if (97 ≤ (tkn tx l i).2.2.2 ∧ (tkn tx l i).2.2.2 ≤ 122) ∨ (tkn tx l i).2.2.2 = 59 then nI (tkn tx l i).2.2.2 else (-2 : Int32)) - 97 = _
      rw [if_pos (Or.inl ⟨hc.2.1, by omega⟩)]
      exact nI_subL (n := 97) hc.2.1
    rw [e]
    exact h1 _ _ (if_pos hc) _
  · refine h0 _ (if_neg (fun q2 => ?_)) _ _ _ _
    have := (mTk_in k3 h255).mpr q2
    rcases q with q | q
    · exact this.1 q
    · exact this.2 q
theorem m_ends (hT : TXT tx l f) {i : Nat} (hi : i ≤ l) {pl tk nu fa : Int32} {Q : Int32 → Int32 → Int32 → Int32 → Int32 → Int32 → Prop}
    (h1 : ∀ v e, nend tx l i = .inr (v, e) → ∀ pl tk nu, Q 1 (nI e) pl tk nu fa) (h0 : ∀ p, nend tx l i = .inl p → ∀ at' pl tk nu, Q 0 at' pl tk nu (nI p)) : wp_X9_ends (nI l) f (nI i) pl tk nu fa Q := by
  obtain ⟨k1, k2, k3, k4, k5⟩ := tkn_ok tx hi
  have h255 := fun h => tkn_255 hT (i := i) h
  unfold wp_X9_ends wp_X9_ends_b20 wp_X9_ends_b25 wp_X9_fails
  refine m_next hT hi (fun num hnum => ?_)
  unfold nend at h1 h0
  have key := mTk_2 (c := 59) k3 h255 (Or.inr rfl)
  refine ⟨fun c => ⟨Or.inr rfl, h1 _ _ (if_pos (key.mp c)) _ _ _⟩, fun c => ⟨fun _ => ⟨Or.inl rfl, h0 _ (if_neg (fun q => c (key.mpr q))) _ _ _ _⟩, fun q => absurd rfl q⟩⟩
end
