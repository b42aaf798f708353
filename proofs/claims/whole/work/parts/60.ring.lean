/-! ===== histories: inserted, removed, other rules; the ring of the past; images ===== -/
def hIns (h : HS) (k d c w : Nat) : HS := (ins (hCnt h) k c, ins (hDay h) k d, ins (hWor h) k w, hRate h, hWrap h)
def hRem (h : HS) (k : Nat) : HS := (rem (hCnt h) k, rem (hDay h) k, rem (hWor h) k, hRate h, hWrap h)
def hRul (h : HS) (r w : Nat) : HS := (hCnt h, hDay h, hWor h, r, w)
def pos (h : HS) (n d : Nat) : Nat := ip (fun i => nI (hDay h i)) (nI d) n
theorem pos_le (h : HS) (n d : Nat) : pos h n d ≤ n := ip_le _ _ n
theorem ins_all {f : Nat → Nat} {n k v B : Nat} (h : ∀ i, i < n → f i ≤ B) (hv : v ≤ B) (hk : k ≤ n) : ∀ i, i < n + 1 → ins f k v i ≤ B := by
  intro i hi
  unfold ins
  by_cases c : i < k
  · rw [if_pos c]; exact h i (by omega)
  · rw [if_neg c]
    by_cases d : i = k
    · rw [if_pos d]; exact hv
    · rw [if_neg d]; exact h (i - 1) (by omega)
theorem HB_ins {h : HS} {n k d c w : Nat} (hb : HB h n) (hn : n < 10) (hk : k ≤ n) (hd : d ≤ 999) (hc : c ≤ 9999) (hw : w ≤ 9) : HB (hIns h k d c w) (n + 1) := by
  obtain ⟨-, b2, b3, b4⟩ := hb
  refine ⟨by omega, b2, b3, fun i hi => ⟨?_, ?_, ?_⟩⟩
  · exact ins_all (fun i hi => (b4 i hi).1) hd hk i hi
  · exact ins_all (fun i hi => (b4 i hi).2.1) hc hk i hi
  · exact ins_all (fun i hi => (b4 i hi).2.2) hw hk i hi
theorem HB_rem {h : HS} {n k : Nat} (hb : HB h n) (hk : k < n) : HB (hRem h k) (n - 1) := by
  obtain ⟨b1, b2, b3, b4⟩ := hb
  refine ⟨by omega, b2, b3, fun i hi => ?_⟩
  show rem (hDay h) k i ≤ 999 ∧ rem (hCnt h) k i ≤ 9999 ∧ rem (hWor h) k i ≤ 9
  unfold rem
  by_cases c : i < k
  · rw [if_pos c, if_pos c, if_pos c]; exact b4 i (by omega)
  · rw [if_neg c, if_neg c, if_neg c]; exact b4 (i + 1) (by omega)
theorem HB_rul {h : HS} {n r w : Nat} (hb : HB h n) (hr : r ≤ 99) (hw : w ≤ 9999) : HB (hRul h r w) n := ⟨hb.1, hr, hw, hb.2.2.2⟩
section
variable {h : HS} {n : Nat} {rate wrap : Int32} {days firsts seconds now : Nat → Int32}
theorem x_hinsert (hn : n < 10) (hc : HC h n rate wrap (nI n) days firsts seconds) {d c w : Nat} {Q : Int32 → (Nat → Int32) → (Nat → Int32) → (Nat → Int32) → Int32 → Prop} (hQ : ∀ D F G : Nat → Int32, HC (hIns h (pos h n d) d c w) (n + 1) rate wrap (nI (n + 1)) D F G → Q (nI (pos h n d)) D F G (nI (n + 1))) : wp_X0_insert 10 days firsts seconds (nI n) (nI d) (nI c) (nI w) Q := by
  obtain ⟨-, c2, c3, c4⟩ := hc
  have hp : ip days (nI d) n = pos h n d := ip_congr n (fun i hi => (c4 i hi).1)
  have hpl := pos_le h n d
  refine x_insert (by decide) hn (fun D F G hDFG => ?_)
  rw [hp] at hDFG ⊢
  refine hQ D F G ⟨rfl, c2, c3, fun i hi => ?_⟩
  obtain ⟨e1, e2, e3⟩ := hDFG i hi
  refine ⟨?_, ?_, ?_⟩
  · rw [e1]; exact ins_nI hpl hi (fun j hj => (c4 j hj).1)
  · rw [e2]; exact ins_nI hpl hi (fun j hj => (c4 j hj).2.1)
  · rw [e3]; exact ins_nI hpl hi (fun j hj => (c4 j hj).2.2)
theorem m_hcomes (hn : n < 10) (hm : HM h n now) {d c w : Nat} {Q : Int32 → (Nat → Int32) → Prop} (hQ : ∀ now, HM (hIns h (pos h n d) d c w) (n + 1) now → Q (nI (pos h n d)) now) : wp_X9_comes 33 now (nI d) (nI c) (nI w) Q := by
  obtain ⟨c1, c2, c3, c4⟩ := hm
  have hp : ip (fun j => now (3 + j)) (nI d) n = pos h n d := ip_congr n (fun i hi => (c4 i hi).1)
  have hpl := pos_le h n d
  refine m_comes hn c1 (fun r r0 r1 r2 hr => ?_)
  rw [hp] at hr ⊢
  refine hQ r ⟨r0, by rw [r1]; exact c2, by rw [r2]; exact c3, fun i hi => ?_⟩
  obtain ⟨e1, e2, e3⟩ := hr i hi
  refine ⟨?_, ?_, ?_⟩
  · rw [e1]; exact ins_nI hpl hi (fun j hj => (c4 j hj).1)
  · rw [e2]; exact ins_nI hpl hi (fun j hj => (c4 j hj).2.1)
  · rw [e3]; exact ins_nI hpl hi (fun j hj => (c4 j hj).2.2)
theorem x_hremove (hn : n ≤ 10) {k : Nat} (hk : k < n) (hc : HC h n rate wrap (nI n) days firsts seconds) {Q : (Nat → Int32) → (Nat → Int32) → (Nat → Int32) → Int32 → Prop} (hQ : ∀ D F G : Nat → Int32, HC (hRem h k) (n - 1) rate wrap (nI (n - 1)) D F G → Q D F G (nI (n - 1))) : wp_X0_remove 10 days firsts seconds (nI n) (nI k) Q := by
  obtain ⟨-, c2, c3, c4⟩ := hc
  refine x_remove (by decide) hn hk (fun D F G hDFG => ?_)
  refine hQ D F G ⟨rfl, c2, c3, fun i hi => ?_⟩
  obtain ⟨e1, e2, e3⟩ := hDFG i hi
  rw [e1, e2, e3]
  show rem days k i = nI (rem (hDay h) k i) ∧ rem firsts k i = nI (rem (hCnt h) k i) ∧ rem seconds k i = nI (rem (hWor h) k i)
  unfold rem
  by_cases c : i < k
  · rw [if_pos c, if_pos c, if_pos c, if_pos c, if_pos c, if_pos c]; exact c4 i (by omega)
  · rw [if_neg c, if_neg c, if_neg c, if_neg c, if_neg c, if_neg c]; exact c4 (i + 1) (by omega)
theorem x_hcopy (hn : n ≤ 10) {size : Int32} (hc : HC h n rate wrap size days firsts seconds) {r0 w0 s0 : Int32} {d0 f0 g0 : Nat → Int32} {Q : Int32 → Int32 → (Nat → Int32) → (Nat → Int32) → (Nat → Int32) → Int32 → Prop} (hQ : ∀ D F G : Nat → Int32, HC h n rate wrap (nI n) D F G → Q rate wrap D F G (nI n)) : wp_X1_copy rate wrap days firsts seconds size r0 w0 d0 f0 g0 s0 Q := by
  obtain ⟨c1, c2, c3, c4⟩ := hc
  subst c1
  unfold wp_X1_copy
  refine x_copy (by decide) hn (fun D F G hD => ?_)
  refine hQ D F G ⟨rfl, c2, c3, fun i hi => ?_⟩
  obtain ⟨e1, e2, e3⟩ := hD i hi
  rw [e1, e2, e3]; exact c4 i hi
theorem x_repair (hb : HB h n) {size : Int32} (hc : HC h n rate wrap size days firsts seconds) {sd sf sg U r : Nat → Int32} {w : Nat → Int64} {e a fs rs : Nat → Int32} {kp s1 s2 kn : Int32} (h0 : sg 0 = nI 0) {Q : (Nat → Int32) → (Nat → Int32) → (Nat → Int32) → (Nat → Int32) → (Nat → Int32) → (Nat → Int64) → (Nat → Int32) → (Nat → Int32) → (Nat → Int32) → (Nat → Int32) → Int32 → Int32 → Int32 → Int32 → Prop}
    (hQ : ∀ sd sf sg U r w e a fs rs kp s1 s2, SO h n sd sf sg U r w e a fs rs kp s1 s2 → Q sd sf sg U r w e a fs rs kp s1 s2 0) : wp_X8_repairAnew rate wrap days firsts seconds size sd sf sg U r w e a fs rs kp s1 s2 kn Q := by
  unfold wp_X8_repairAnew
  refine x_solve hb hc h0 (fun sd sf sg U r w e a fs rs kp s1 s2 hS => ?_)
  unfold wp_X2_forget
  exact hQ _ _ _ _ _ _ _ _ _ _ _ _ _ hS
end
/-- a wrap that may be -/
def WR (p : Int32) : Prop := p = 0 ∨ (¬ p < 100 ∧ ¬ 9999 < p)
theorem WR_nI {p : Int32} (h : WR p) : ∃ w, w ≤ 9999 ∧ p = nI w := by
  rcases h with h | ⟨h1, h2⟩
  · exact ⟨0, by decide, h⟩
  · exact between (n := 9999) rfl (fun c => h1 (Int32.lt_trans c (by decide))) h2
theorem x_isWrap {p : Int32} {Q : Int32 → Prop} (h1 : WR p → Q 1) (h0 : ¬ WR p → Q 0) : wp_X8_isWrap p Q := by
  unfold wp_X8_isWrap wp_X8_isWrap_b16 wp_X8_isWrap_b21
  refine ⟨fun a => ⟨Or.inr rfl, h1 (Or.inl a)⟩, fun a => ?_⟩
  exact x_within (fun b c => ⟨fun q => absurd q (by decide), fun _ => ⟨Or.inr rfl, h1 (Or.inr ⟨b, c⟩)⟩⟩) (fun b => ⟨fun _ => ⟨Or.inl rfl, h0 (fun c => by rcases c with c | c; exact a c; rcases b with b | b; exact c.1 b; exact c.2 b)⟩, fun q => absurd rfl q⟩)
theorem m_isWrap {p : Int32} {Q : Int32 → Prop} (h1 : WR p → Q 1) (h0 : ¬ WR p → Q 0) : wp_X9_isWrap p Q := by
  unfold wp_X9_isWrap wp_X9_isWrap_b16 wp_X9_isWrap_b21
  refine ⟨fun a => ⟨Or.inr rfl, h1 (Or.inl a)⟩, fun a => ?_⟩
  exact m_in (fun b c => ⟨fun q => absurd q (by decide), fun _ => ⟨Or.inr rfl, h1 (Or.inr ⟨b, c⟩)⟩⟩) (fun b => ⟨fun _ => ⟨Or.inl rfl, h0 (fun c => by rcases c with c | c; exact a c; rcases b with b | b; exact c.1 b; exact c.2 b)⟩, fun q => absurd rfl q⟩)
theorem between1 {p lo hi : Int32} {n : Nat} (hM : hi.toInt = n) (hlo : 0 ≤ lo) (h1 : ¬ p < lo) (h2 : ¬ hi < p) : ∃ j : Nat, j ≤ n ∧ p = nI j := between hM (fun c => h1 (Int32.lt_of_lt_of_le c hlo)) h2
/-- the ring -/
def eup (E : Nat → HS × Nat) (a : Nat) (x : HS × Nat) (e : Nat) : HS × Nat := if e = a then x else E e
def QC (E : Nat → HS × Nat) (a m : Nat) (R W S : Nat → Int32) (D F G : Nat → Nat → Int32) : Prop := ∀ j, j < m → HC (E ((a + 9 - j) % 10)).1 (E ((a + 9 - j) % 10)).2 (R ((a + 9 - j) % 10)) (W ((a + 9 - j) % 10)) (S ((a + 9 - j) % 10)) (D ((a + 9 - j) % 10)) (F ((a + 9 - j) % 10)) (G ((a + 9 - j) % 10))
def QM (E : Nat → HS × Nat) (a m : Nat) (undos : Nat → Int32) : Prop := ∀ j, j < m → HM (E ((a + 9 - j) % 10)).1 (E ((a + 9 - j) % 10)).2 (fun i => undos (33 * ((a + 9 - j) % 10) + i))
def QB (E : Nat → HS × Nat) (a m : Nat) : Prop := ∀ j, j < m → HB (E ((a + 9 - j) % 10)).1 (E ((a + 9 - j) % 10)).2
def a1 (a : Nat) : Nat := (a + 1) % 10
def mp (m : Nat) : Nat := if m < 10 then m + 1 else 10
theorem ring_in {a m j : Nat} (ha : a < 10) (hj : j < mp m) : (j = 0 ∧ (a1 a + 9 - j) % 10 = a) ∨ (j - 1 < m ∧ (a1 a + 9 - j) % 10 = (a + 9 - (j - 1)) % 10 ∧ (a + 9 - (j - 1)) % 10 ≠ a) := by
  unfold mp at hj
  unfold a1
  split at hj
  all_goals omega
theorem QB_up {E : Nat → HS × Nat} {a m : Nat} {h : HS} {n : Nat} (ha : a < 10) (hq : QB E a m) (hb : HB h n) : QB (eup E a (h, n)) (a1 a) (mp m) := by
  intro j hj
  rcases ring_in ha hj with ⟨-, e⟩ | ⟨h1, e, h2⟩
  · rw [e]; unfold eup; rw [if_pos rfl]; exact hb
  · rw [e]; unfold eup; rw [if_neg h2]; exact hq (j - 1) h1
theorem va_s {α : Type} (f : Nat → α) (k : Nat) (v : α) : va_up f k v k = v := by unfold va_up; simp
theorem va_n {α : Type} {f : Nat → α} {k j : Nat} {v : α} (h : j ≠ k) : va_up f k v j = f j := by unfold va_up; simp [h]
theorem x_remember {h : HS} {n : Nat} (hn : n ≤ 10) {rate wrap : Int32} {days firsts seconds : Nat → Int32} (hc : HC h n rate wrap (nI n) days firsts seconds) {E : Nat → HS × Nat} {a m : Nat} (ha : a < 10) (hm : m ≤ 10) {R W S : Nat → Int32} {D F G : Nat → Nat → Int32} (hq : QC E a m R W S D F G) {Q : Int32 → Int32 → (Nat → Int32) → (Nat → Int32) → (Nat → Int32) → (Nat → Nat → Int32) → (Nat → Nat → Int32) → (Nat → Nat → Int32) → Prop}
    (hQ : ∀ R W S D F G, QC (eup E a (h, n)) (a1 a) (mp m) R W S D F G → Q (nI (mp m)) (nI (a1 a)) R W S D F G) : wp_X3_remember rate wrap days firsts seconds (nI n) (nI m) (nI a) R W S D F G Q := by
  unfold wp_X3_remember
  refine ⟨vin ha (by decide), ?_⟩
  rw [nI_cl (by omega)]
  refine x_hcopy hn hc (fun D' F' G' hc' => ?_)
  have hgo : ∀ k0 : Int32, k0 = nI (a1 a) → wp_X3_remember_b35 rate wrap days firsts seconds (nI n) Q k0 (nI m) (nI a) (va_up R a rate) (va_up W a wrap) (va_up S a (nI n)) (va_up D a D') (va_up F a F') (va_up G a G') := by
    intro k0 hk0
    subst hk0
    unfold wp_X3_remember_b35
    intro y hy
    rw [nI_addL] at hy
    have hy' : y = nI (mp m) := by
      rw [hy]
      unfold mp
      by_cases c : m < 10
      · rw [if_pos c]; exact if_neg (nI_nlt (a := 10) (b := m + 1) (by omega) (by decide))
      · rw [if_neg c]; exact if_pos (nI_lt (a := 10) (b := m + 1) (by omega) (by omega))
    subst hy'
    refine hQ _ _ _ _ _ _ (fun j hj => ?_)
    rcases ring_in ha hj with ⟨-, e⟩ | ⟨h1, e, h2⟩
    · rw [e, va_s, va_s, va_s, va_s, va_s, va_s]; unfold eup; rw [if_pos rfl]; exact hc'
    · rw [e, va_n h2, va_n h2, va_n h2, va_n h2, va_n h2, va_n h2]; unfold eup; rw [if_neg h2]; exact hq (j - 1) h1
  rw [nI_addL]
  refine bLE 10 (a + 1) rfl rfl (by decide) (by omega) (fun q => hgo _ ?_) (fun q => hgo _ ?_)
  · unfold a1; rw [show a + 1 = 10 by omega]; rfl
  · unfold a1; rw [Nat.mod_eq_of_lt (by omega)]
theorem m_remember {h : HS} {n : Nat} {now : Nat → Int32} (hm' : HM h n now) (hn : n ≤ 10) {E : Nat → HS × Nat} {a m : Nat} (ha : a < 10) (hm : m ≤ 10) {undos : Nat → Int32} {kn : Int32} (hq : QM E a m undos) (hqb : QB E a m) {Q : Int32 → Int32 → (Nat → Int32) → Int32 → Prop}
    (hQ : ∀ undos, QM (eup E a (h, n)) (a1 a) (mp m) undos → Q (nI (mp m)) (nI (a1 a)) undos 0) : wp_X9_remember now (nI m) (nI a) undos kn Q := by
  unfold wp_X9_remember
  have hloop : ∀ (d i : Nat) (u : Nat → Int32), i + d = 33 → (∀ j, j < i → u (33 * a + j) = now j) → (∀ j, (j < 33 * a ∨ 33 * a + 33 ≤ j) → u j = undos j) → wp_X9_remember_h2 now Q (d + 1) (nI i) (nI m) (nI a) u kn := by
    intro d
    induction d with
    | zero =>
      intro i u hi i1 i2
      have : i = 33 := by omega
      subst this
      rw [wp_X9_remember_h2]
      refine bLE 33 33 rfl rfl (by decide) (by decide) (fun _ => ?_) (fun q => by omega)
      intro y hy
      have hy' : y = nI (a1 a) := by
        rw [hy, nI_addL]
        exact pk_rem (d := 10) (by omega) (by decide) (by decide)
      subst hy'
      have hend : QM (eup E a (h, n)) (a1 a) (mp m) u := by
        intro j hj
        rcases ring_in ha hj with ⟨-, e⟩ | ⟨h1, e, h2⟩
        · rw [e]; unfold eup; rw [if_pos rfl]
          obtain ⟨c1, c2, c3, c4⟩ := hm'
          refine ⟨?_, ?_, ?_, fun k hk => ⟨?_, ?_, ?_⟩⟩
          · show u (33 * a + 0) = _; rw [i1 0 (by decide)]; exact c1
          · show u (33 * a + 1) = _; rw [i1 1 (by decide)]; exact c2
          · show u (33 * a + 2) = _; rw [i1 2 (by decide)]; exact c3
          · show u (33 * a + (3 + k)) = _; rw [i1 (3 + k) (by dsimp only at hk; omega)]; exact (c4 k hk).1
          · show u (33 * a + (13 + k)) = _; rw [i1 (13 + k) (by dsimp only at hk; omega)]; exact (c4 k hk).2.1
          · show u (33 * a + (23 + k)) = _; rw [i1 (23 + k) (by dsimp only at hk; omega)]; exact (c4 k hk).2.2
        · rw [e]; unfold eup; rw [if_neg h2]
          have hB := (hqb (j - 1) h1).1
          obtain ⟨c1, c2, c3, c4⟩ := hq (j - 1) h1
          have he : (a + 9 - (j - 1)) % 10 < 10 := Nat.mod_lt _ (by decide)
          generalize (a + 9 - (j - 1)) % 10 = e' at *
          refine ⟨?_, ?_, ?_, fun k hk => ⟨?_, ?_, ?_⟩⟩
          · show u (33 * e' + 0) = _; rw [i2 (33 * e' + 0) (by omega)]; exact c1
          · show u (33 * e' + 1) = _; rw [i2 (33 * e' + 1) (by omega)]; exact c2
          · show u (33 * e' + 2) = _; rw [i2 (33 * e' + 2) (by omega)]; exact c3
          · show u (33 * e' + (3 + k)) = _; rw [i2 (33 * e' + (3 + k)) (by omega)]; exact (c4 k hk).1
          · show u (33 * e' + (13 + k)) = _; rw [i2 (33 * e' + (13 + k)) (by omega)]; exact (c4 k hk).2.1
          · show u (33 * e' + (23 + k)) = _; rw [i2 (33 * e' + (23 + k)) (by omega)]; exact (c4 k hk).2.2
      have hfin := hQ u hend
      unfold wp_X9_remember_b66
      refine bLE 10 m rfl rfl (by decide) (by omega) (fun q => ?_) (fun q => ?_)
      · intro z hz
        have hz' : z = nI (mp m) := by
          rw [hz]; unfold mp; rw [if_neg (by omega), show m = 10 by omega]; rfl
        rw [hz']; exact hfin
      · intro z hz
        have hz' : z = nI (mp m) := by
          rw [hz]; unfold mp; rw [if_pos q]; exact nI_1 m
        rw [hz']; exact hfin
    | succ d ih =>
      intro i u hi i1 i2
      rw [wp_X9_remember_h2]
      refine bLE 33 i rfl rfl (by decide) (by omega) (fun q => by omega) (fun _ => ?_)
      rw [nI_Lmul, nI_add, nI_cl (show i < 2147483648 by omega), nI_cl (show 33 * a + i < 2147483648 by omega)]
      refine ⟨vin (by omega) (by decide), ?_⟩
      intro y hy
      refine ⟨vin (show 33 * a + i < 330 by omega) (by decide), ?_⟩
      intro z hz
      rw [nI_1] at hz
      subst hz
      refine ih (i + 1) _ (by omega) (fun j hj => ?_) (fun j hj => ?_)
      · by_cases c : j = i
        · subst c
          show upd u (33 * a + j) y (33 * a + j) = _
          rw [upd_s]; exact hy
        · show upd u (33 * a + i) y (33 * a + j) = _
          rw [upd_n (by omega)]; exact i1 j (by omega)
      · show upd u (33 * a + i) y j = _
        rw [upd_n (by omega)]; exact i2 j hj
  exact ⟨33 + 1, hloop 33 0 undos (by omega) (fun j hj => absurd hj (Nat.not_lt_zero j)) (fun j _ => rfl)⟩
