/-! ===== the first of the best, as the class goes it ===== -/
def tk (h : HS) (n x k s : Nat) : Option Nat := match stt h (sgm h x) k s with
  | none => none
  | some t => if (GG h (n - (k + 1)) (k + 1) (some (k, ct h k s + t * hWrap h))).1 + gd h k s = (GG h (n - k) k (sgm h x)).1 then some (ix k s t) else none
def nx (h : HS) (n x k : Nat) : Nat × Nat := match tk h n x k 0 with
  | some y => (0, y)
  | none => match tk h n x k 1 with
    | some y => (1, y)
    | none => (2, x)
def px (h : HS) (n : Nat) : Nat → Nat
  | 0 => 0
  | k + 1 => (nx h n (px h n k) k).2
def pd (h : HS) (n k : Nat) : Nat := (nx h n (px h n k) k).1
def kc (h : HS) (n : Nat) : Nat → Nat
  | 0 => 0
  | k + 1 => if pd h n k = 2 then kc h n k else kc h n k + 1
theorem tk_some {h : HS} {n x k s y : Nat} (e : tk h n x k s = some y) : ∃ t, stt h (sgm h x) k s = some t ∧ y = ix k s t ∧ (GG h (n - (k + 1)) (k + 1) (some (k, ct h k s + t * hWrap h))).1 + gd h k s = (GG h (n - k) k (sgm h x)).1 := by
  unfold tk at e
  cases hs : stt h (sgm h x) k s with
  | none => rw [hs] at e; cases e
  | some t =>
    rw [hs] at e
    dsimp only at e
    split at e
    · rename_i hq
      exact ⟨t, rfl, (Option.some.inj e).symm, hq⟩
    · cases e
/-- what one step along the first does -/
theorem nx_cases (h : HS) {n x k : Nat} (hk : k < n) : (∃ s t, s < 2 ∧ nx h n x k = (s, ix k s t) ∧ stt h (sgm h x) k s = some t ∧ (GG h (n - (k + 1)) (k + 1) (some (k, ct h k s + t * hWrap h))).1 + gd h k s = (GG h (n - k) k (sgm h x)).1) ∨ (nx h n x k = (2, x) ∧ (GG h (n - (k + 1)) (k + 1) (sgm h x)).1 = (GG h (n - k) k (sgm h x)).1) := by
  unfold nx
  cases h0 : tk h n x k 0 with
  | some y =>
    obtain ⟨t, e1, e2, e3⟩ := tk_some h0
    subst e2
    exact Or.inl ⟨0, t, by decide, rfl, e1, e3⟩
  | none =>
    cases h1 : tk h n x k 1 with
    | some y =>
      obtain ⟨t, e1, e2, e3⟩ := tk_some h1
      subst e2
      exact Or.inl ⟨1, t, by decide, rfl, e1, e3⟩
    | none =>
      refine Or.inr ⟨rfl, ?_⟩
      have hnk : n - k = (n - (k + 1)) + 1 := by omega
      rw [hnk]
      rcases GG_case h (n - (k + 1)) k (sgm h x) with e | ⟨s, f, hs, e1, e2⟩
      · exact e.symm
      · exfalso
        obtain ⟨t, e3, e4⟩ := stt_of_stp e1
        have hn : tk h n x k s = none := by
          rcases (show s = 0 ∨ s = 1 by omega) with rfl | rfl
          · exact h0
          · exact h1
        unfold tk at hn
        rw [e3] at hn
        dsimp only at hn
        rw [if_pos (by rw [hnk, e2, e4])] at hn
        cases hn
theorem px_rx (h : HS) (n : Nat) : ∀ (k : Nat), k ≤ n → ∃ g, RX h k (px h n k) g ∧ g + (GG h (n - k) k (sgm h (px h n k))).1 = (GG h n 0 none).1
  | 0, _ => ⟨0, ⟨rfl, rfl⟩, by rw [Nat.zero_add]; rfl⟩
  | k + 1, hk => by
    obtain ⟨g, e1, e2⟩ := px_rx h n k (by omega)
    show ∃ g', RX h (k + 1) (nx h n (px h n k) k).2 g' ∧ _
    rcases nx_cases h (n := n) (x := px h n k) (show k < n by omega) with ⟨s, t, hs, e3, e4, e5⟩ | ⟨e3, e4⟩
    · have ht := stt_le e4
      refine ⟨g + gd h k s, ?_, ?_⟩
      · rw [e3]; exact Or.inr ⟨px h n k, g, s, t, e1, hs, e4, rfl, rfl⟩
      · show _ + (GG h _ _ (sgm h (nx h n (px h n k) k).2)).1 = _
        rw [e3]
        dsimp only
        rw [sgm_ix h hs (by omega)]
        omega
    · refine ⟨g, ?_, ?_⟩
      · rw [e3]; exact Or.inl e1
      · show _ + (GG h _ _ (sgm h (nx h n (px h n k) k).2)).1 = _
        rw [e3]
        dsimp only
        omega
/-- why a reading is dropped -/
def rsn (h : HS) (q : SG) (k : Nat) : Nat := match q with
  | none => 3
  | some (j, f) => match trn (ct h k 0) f (hWrap h) with
    | none => 1
    | some t => if raceb h j f k (ct h k 0 + t * hWrap h) then 2 else 3
def FF (h : HS) (n : Nat) (firsts reasons : Nat → Int32) (kept : Int32) : Prop := (∀ k, k < n → firsts k = nI (if pd h n k = 2 then 0 else px h n (k + 1)) ∧ reasons k = nI (if pd h n k = 2 then rsn h (sgm h (px h n k)) k else 0)) ∧ kept = nI (kc h n n)
section
variable {h : HS} {n : Nat} {rate : Int32} {sd sf sg : Nat → Int32} {U : Nat → Int32} {r : Nat → Int32} {w : Nat → Int64} {e a : Nat → Int32}
theorem rx_sv (hU : UF h n U) (hB : BF h n U r w e a) {t x g : Nat} (ht : t ≤ n) (hx : RX h t x g) : SV h n r w e a x := by
  obtain ⟨u, e1, e2, e3⟩ := hU.2 t x g ht hx
  have := (RX_x t x g hx).1
  exact hB x (by unfold XV at this ⊢; omega) ⟨u, e1, e3⟩
theorem x_bestStand (hb : HB h n) (hr : rate = nI (hRate h)) (hS : SR h n sd sf sg) (hU : UF h n U) (hB : BF h n U r w e a) {k x g : Nat} (hk : k < n) (hx : RX h k x g) {Q : Int32 → Prop} (hQ : Q (nI (if (nx h n x k).1 = 2 then 0 else (nx h n x k).2))) : wp_X5_bestStand rate sd sf r (nI x) (nI k) (nI (GG h (n - k) k (sgm h x)).1) Q := by
  have hn := hb.1
  have hxv : XV n x := by have := (RX_x k x g hx).1; unfold XV at this ⊢; omega
  have hG := (GG_ok hb (n - k) k (sgm h x) (by omega)).1
  have hone : ∀ (s m : Nat), s < 2 → (tk h n x k s = none → wp_X5_bestStand_b41 rate sd sf r Q (fun y0 y1 y2 y3 => wp_X5_bestStand_h3 rate sd sf r Q m y0 y1 y2 y3) (nI x) (nI k) (nI (GG h (n - k) k (sgm h x)).1) (nI s)) → (∀ y, tk h n x k s = some y → Q (nI y)) → wp_X5_bestStand_h3 rate sd sf r Q (m + 1) (nI x) (nI k) (nI (GG h (n - k) k (sgm h x)).1) (nI s) := by
    intro s m hs hno hyes
    rw [wp_X5_bestStand_h3]
    dsimp only
    refine bLE 2 s rfl rfl (by decide) (by omega) (fun q => by omega) (fun _ => ?_)
    refine x_following hb hr hS hxv hk hs ?_
    cases hst : stt h (sgm h x) k s with
    | none =>
      exact ⟨fun _ => hno (by unfold tk; rw [hst]), fun q => absurd (fol_none hst) q⟩
    | some t =>
      have ht := stt_le hst
      rw [fol_some hst]
      have hixv : XV n (ix k s t) := XV_ix hk hs (by omega)
      have hixl : ix k s t < 88 := by unfold XV at hixv; omega
      refine ⟨fun q => absurd q (nI_pos (by omega)), fun _ => ⟨vin hixl (by decide), ?_⟩⟩
      have hsv := SV_ix hs (show t < 4 by omega) (rx_sv hU hB (show k + 1 ≤ n by omega) (Or.inr ⟨x, g, s, t, hx, hs, hst, rfl, rfl⟩))
      rw [nI_cl (by omega), hsv.1, sh_1]
      have hG2 := (GG_ok hb (n - (k + 1)) (k + 1) (some (k, ct h k s + t * hWrap h)) (by omega)).1
      have hg := gd_le (s := s) hb hk
      refine bNE _ _ rfl rfl (by omega) (by omega) (fun q => hno ?_) (fun q => hyes _ ?_)
      · unfold tk; rw [hst]; dsimp only; rw [if_neg q]
      · unfold tk; rw [hst]; dsimp only; rw [if_pos q]
  refine ⟨3, ?_⟩
  have hix : ∀ s y, s < 2 → tk h n x k s = some y → True := fun _ _ _ _ => trivial
  refine hone 0 2 (by decide) (fun h0 => ?_) (fun y h0 => ?_)
  · unfold wp_X5_bestStand_b41
    intro y hy
    have hy' : y = nI 1 := hy
    subst hy'
    refine hone 1 1 (by decide) (fun h1 => ?_) (fun y h1 => ?_)
    · unfold wp_X5_bestStand_b41
      intro y hy
      have hy' : y = nI 2 := hy
      subst hy'
      rw [wp_X5_bestStand_h3]
      dsimp only
      refine ⟨fun _ => ?_, fun q => absurd (show (2 : Int32) ≤ nI 2 by decide) q⟩
      have : nx h n x k = (2, x) := by unfold nx; rw [h0, h1]
      rw [this] at hQ
      exact hQ
    · have : nx h n x k = (1, y) := by unfold nx; rw [h0, h1]
      rw [this] at hQ
      exact hQ
  · have : nx h n x k = (0, y) := by unfold nx; rw [h0]
    rw [this] at hQ
    exact hQ
theorem x_reasonBehind (hb : HB h n) (hr : rate = nI (hRate h)) (hS : SR h n sd sf sg) {k x : Nat} (hk : k < n) (hx : XV n x) {Q : Int32 → Prop} (hQ : Q (nI (rsn h (sgm h x) k))) : wp_X5_reasonBehind rate sd sf (nI x) (nI k) Q := by
  have hn := hb.1
  unfold wp_X5_reasonBehind
  refine x_following hb hr hS hx hk (s := 0) (by decide) ?_
  have hpos : ∀ t, t < 4 → ¬ nI (ix k 0 t) = (-2 : Int32) ∧ ¬ nI (ix k 0 t) = (-1 : Int32) := by
    intro t ht
    have : ix k 0 t < 1000 := by unfold ix; omega
    constructor
    · rw [show (-2 : Int32) = zI (-2) from rfl, zI_nI, zI_eq (by omega) (by omega) (by omega) (by omega)]; omega
    · rw [m1, zI_nI, zI_eq (by omega) (by omega) (by omega) (by omega)]; omega
  unfold rsn at hQ
  unfold fol
  cases hq : sgm h x with
  | none =>
    rw [hq] at hQ
    dsimp only at hQ ⊢
    exact ⟨fun q => absurd q (hpos 0 (by decide)).1, fun q => absurd q (hpos 0 (by decide)).2, fun _ _ => hQ⟩
  | some v =>
    obtain ⟨j, f⟩ := v
    rw [hq] at hQ
    dsimp only at hQ ⊢
    cases htr : trn (ct h k 0) f (hWrap h) with
    | none =>
      rw [htr] at hQ
      dsimp only at hQ ⊢
      exact ⟨fun q => absurd q (by decide), fun _ => hQ, fun _ q => absurd rfl q⟩
    | some t =>
      rw [htr] at hQ
      dsimp only at hQ ⊢
      have ht : t < 4 := by
        unfold trn at htr
        repeat' split at htr
        all_goals cases htr
        all_goals omega
      by_cases hr2 : raceb h j f k (ct h k 0 + t * hWrap h) = true
      · rw [if_pos hr2] at hQ ⊢
        exact ⟨fun _ => hQ, fun q => absurd q (by decide), fun q => absurd rfl q⟩
      · rw [if_neg hr2] at hQ ⊢
        exact ⟨fun q => absurd q (hpos t ht).1, fun q => absurd q (hpos t ht).2, fun _ _ => hQ⟩
theorem kc_le (h : HS) (n : Nat) : ∀ k, kc h n k ≤ k
  | 0 => Nat.le_refl 0
  | k + 1 => by
    have := kc_le h n k
    unfold kc; split <;> omega
theorem x_chooseFirst (hb : HB h n) (hr : rate = nI (hRate h)) (hS : SR h n sd sf sg) (hU : UF h n U) (hB : BF h n U r w e a) {fs rs : Nat → Int32} {kp : Int32} {Q : (Nat → Int32) → (Nat → Int32) → Int32 → Prop} (hQ : ∀ fs rs kp, FF h n fs rs kp → Q fs rs kp) : wp_X5_chooseFirst rate (nI n) sd sf sg r fs rs kp Q := by
  have hn := hb.1
  have hloop : ∀ (d k : Nat) (fs rs : Nat → Int32), k + d = n → (∀ j, j < k → fs j = nI (if pd h n j = 2 then 0 else px h n (j + 1)) ∧ rs j = nI (if pd h n j = 2 then rsn h (sgm h (px h n j)) j else 0)) → wp_X5_chooseFirst_h16 rate (nI n) sd sf sg r Q (d + 1) (nI (px h n k)) (nI (GG h (n - k) k (sgm h (px h n k))).1) (nI k) fs rs (nI (kc h n k)) := by
    intro d
    induction d with
    | zero =>
      intro k fs rs hk hi
      have : k = n := by omega
      subst this
      rw [wp_X5_chooseFirst_h16]
      dsimp only
      unfold wp_X6_size
      exact bLE k k rfl rfl (by omega) (by omega) (fun _ => hQ fs rs _ ⟨hi, rfl⟩) (fun q => by omega)
    | succ d ih =>
      intro k fs rs hk hi
      have hkn : k < n := by omega
      obtain ⟨g, hrx, -⟩ := px_rx h n k (by omega)
      have hxv : XV n (px h n k) := by have := (RX_x k _ g hrx).1; unfold XV at this ⊢; omega
      rw [wp_X5_chooseFirst_h16]
      dsimp only
      unfold wp_X6_size
      refine bLE n k rfl rfl (by omega) (by omega) (fun q => by omega) (fun _ => ?_)
      refine x_bestStand hb hr hS hU hB hkn hrx ?_
      rw [nI_cl (by omega)]
      have hv : vp_in (nI k) 10 := vin (by omega) (by decide)
      refine ⟨hv, ?_⟩
      have hpd : (nx h n (px h n k) k).1 = pd h n k := rfl
      have hpx : (nx h n (px h n k) k).2 = px h n (k + 1) := rfl
      rw [hpd, hpx]
      have hstep : ∀ (k0 : Int32) (v1 v2 v4 kp : Int32), k0 = nI (if pd h n k = 2 then rsn h (sgm h (px h n k)) k else 0) → v4 = nI (if pd h n k = 2 then 0 else px h n (k + 1)) → (∀ rs', wp_X5_chooseFirst_b96 rate (nI n) sd sf sg r Q (fun y0 y1 y2 y3 y4 y5 => wp_X5_chooseFirst_h16 rate (nI n) sd sf sg r Q (d + 1) y0 y1 y2 y3 y4 y5) v1 v2 (nI k) (upd fs k v4) rs' kp ∨ True) → True := fun _ _ _ _ _ _ _ _ => trivial
      have hnext : ∀ (rs' : Nat → Int32), rs' = upd rs k (nI (if pd h n k = 2 then rsn h (sgm h (px h n k)) k else 0)) → wp_X5_chooseFirst_b96 rate (nI n) sd sf sg r Q (fun y0 y1 y2 y3 y4 y5 => wp_X5_chooseFirst_h16 rate (nI n) sd sf sg r Q (d + 1) y0 y1 y2 y3 y4 y5) (nI (px h n (k + 1))) (nI (GG h (n - (k + 1)) (k + 1) (sgm h (px h n (k + 1)))).1) (nI k) (upd fs k (nI (if pd h n k = 2 then 0 else px h n (k + 1)))) rs' (nI (kc h n (k + 1))) := by
        intro rs' hrs
        subst hrs
        unfold wp_X5_chooseFirst_b96
        intro y hy
        have hy' : y = nI (k + 1) := by rw [hy]; exact nI_1 k
        subst hy'
        refine ih (k + 1) _ _ (by omega) (fun j hj => ?_)
        by_cases q : j = k
        · subst q; rw [upd_s, upd_s]; exact ⟨rfl, rfl⟩
        · rw [upd_n q, upd_n q]; exact hi j (by omega)
      rcases nx_cases h (n := n) (x := px h n k) hkn with ⟨s, t, hs, e3, e4, e5⟩ | ⟨e3, e4⟩
      · have ht := stt_le e4
        have hp2 : pd h n k ≠ 2 := by show (nx h n (px h n k) k).1 ≠ 2; rw [e3]; dsimp only; omega
        have hpy : px h n (k + 1) = ix k s t := by rw [← hpx, e3]
        have hixv : XV n (ix k s t) := XV_ix hkn hs (by omega)
        obtain ⟨i1, i2, i3, i4⟩ := ix_8 (k := k) hs (show t < 4 by omega)
        have hixl : ix k s t < 88 := by unfold XV at hixv; omega
        rw [if_neg hp2]
        rw [if_neg hp2, if_neg hp2] at hnext
        refine ⟨fun _ => ?_, fun q => absurd q (by rw [hpy]; exact nI_ne0 (by omega) (by omega))⟩
        unfold wp_X5_chooseFirst_b64
        rw [nI_cl (by omega)]
        refine ⟨hv, fun q => absurd q (by rw [hpy]; exact nI_ne0 (by omega) (by omega)), fun _ => ?_⟩
        rw [hpy, nI_cl (by omega), (hS.2 k s t hkn hs (by omega)).2.2]
        refine ⟨vin hixl (by decide), ?_⟩
        intro y1 hy1 y2 hy2
        have hG := (GG_ok hb (n - k) k (sgm h (px h n k)) (by omega)).1
        have hy1' : y1 = nI (GG h (n - (k + 1)) (k + 1) (sgm h (px h n (k + 1)))).1 := by
          rw [hy1, nI_subN (by omega), hpy, sgm_ix h hs (by omega)]
          congr 1; omega
        have hy2' : y2 = nI (kc h n (k + 1)) := by
          rw [hy2, nI_addL]
          congr 1
          show _ = if pd h n k = 2 then _ else _
          rw [if_neg hp2]
        rw [hy1', hy2', ← hpy]
        exact hnext _ rfl
      · have hp2 : pd h n k = 2 := by show (nx h n (px h n k) k).1 = 2; rw [e3]
        have hpy : px h n (k + 1) = px h n k := by rw [← hpx, e3]
        have hkc : kc h n (k + 1) = kc h n k := by show (if pd h n k = 2 then _ else _) = _; rw [if_pos hp2]
        rw [if_pos hp2]
        rw [if_pos hp2, if_pos hp2, hpy, e4, hkc] at hnext
        refine ⟨fun q => absurd rfl q, fun _ => ?_⟩
        refine x_reasonBehind hb hr hS hkn hxv ?_
        unfold wp_X5_chooseFirst_b64
        rw [nI_cl (by omega)]
        exact ⟨hv, fun _ => hnext _ rfl, fun q => absurd rfl q⟩
  unfold wp_X5_chooseFirst
  intro y hy
  obtain ⟨hs0, -⟩ := rx_sv hU hB (t := 0) (x := 0) (g := 0) (by omega) ⟨rfl, rfl⟩
  have hy' : y = nI (GG h (n - 0) 0 (sgm h (px h n 0))).1 := by
    rw [hy]
    show r 0 = _
    rw [hs0]
    rfl
  subst hy'
  exact ⟨n + 1, hloop n 0 fs rs (by omega) (fun j hj => absurd hj (Nat.not_lt_zero j))⟩
end
