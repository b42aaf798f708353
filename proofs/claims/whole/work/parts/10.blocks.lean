/-! worlds in blocks: a call takes some blocks and gives them back -/
theorem vP_mem {D : va_G} {cl : List vw_C} {ws : va_W} {H : Heap} : va_P D cl ws H ↔ ∀ q ∈ ws, va_at D cl q H := by
  constructor
  · intro h q hq
    obtain ⟨k, hk⟩ := List.mem_iff_getElem?.mp hq
    exact h k q hk
  · intro h k q hk
    exact h q (List.mem_of_getElem? hk)
theorem vD_nd {A : Nat → Prop} {ws : va_W} : va_D A ws ↔ (ws.map Prod.fst).Nodup ∧ ∀ q ∈ ws, A q.1 := by
  constructor
  · intro h
    refine ⟨?_, fun q hq => ?_⟩
    · unfold List.Nodup
      rw [List.pairwise_map, List.pairwise_iff_getElem]
      intro i j hi hj hij he
      have := h.1 i j ws[i] ws[j] (List.getElem?_eq_getElem hi) (List.getElem?_eq_getElem hj) he
      omega
    · obtain ⟨k, hk⟩ := List.mem_iff_getElem?.mp hq
      exact h.2 k q hk
  · intro h
    refine ⟨fun i j p q hi hj he => ?_, fun k q hk => h.2 q (List.mem_of_getElem? hk)⟩
    have hn := h.1
    unfold List.Nodup at hn
    rw [List.pairwise_map, List.pairwise_iff_getElem] at hn
    obtain ⟨hi', rfl⟩ := List.getElem?_eq_some_iff.mp hi
    obtain ⟨hj', rfl⟩ := List.getElem?_eq_some_iff.mp hj
    rcases Nat.lt_trichotomy i j with q | q | q
    · exact absurd he (hn i j hi' hj' q)
    · exact q
    · exact absurd he.symm (hn j i hj' hi' q)
theorem vP_perm {D : va_G} {cl : List vw_C} {ws ws' : va_W} {H : Heap} (hp : ws.Perm ws') (h : va_P D cl ws H) : va_P D cl ws' H := vP_mem.mpr (fun q hq => vP_mem.mp h q (hp.mem_iff.mpr hq))
theorem vD_perm {A : Nat → Prop} {ws ws' : va_W} (hp : ws.Perm ws') (h : va_D A ws) : va_D A ws' := by
  obtain ⟨h1, h2⟩ := vD_nd.mp h
  exact vD_nd.mpr ⟨(hp.map Prod.fst).nodup_iff.mp h1, fun q hq => h2 q (hp.mem_iff.mpr hq)⟩
theorem fl_perm {α : Type} {l l' : List (List α)} (h : l.Perm l') : l.flatten.Perm l'.flatten := by
  induction h with
  | nil => exact List.Perm.refl _
  | cons a _ ih => simp only [List.flatten_cons]; exact List.Perm.append_left _ ih
  | swap a b l =>
    simp only [List.flatten_cons]
    rw [← List.append_assoc, ← List.append_assoc]
    exact List.Perm.append_right _ List.perm_append_comm
  | trans _ _ ih1 ih2 => exact ih1.trans ih2
def bsel (bs : List va_W) (is : List Nat) : va_W := (is.map (fun i => bs.getD i [])).flatten
theorem bsel_perm (bs : List va_W) (is js : List Nat) (n : Nat) (hn : bs.length = n) (hp : (is ++ js).isPerm (List.range n) = true) : bs.flatten.Perm (bsel bs is ++ bsel bs js) := by
  have h1 : (is ++ js).Perm (List.range n) := List.isPerm_iff.mp hp
  have h2 : (List.range n).map (fun i => bs.getD i []) = bs := by
    subst hn
    apply List.ext_getElem
    · simp
    · intro i h h'
      simp [List.getD, List.getElem?_eq_getElem h']
  have h3 := fl_perm (h1.map (fun i => bs.getD i []))
  rw [h2, List.map_append, List.flatten_append] at h3
  exact h3.symm
theorem rg_get {α : Type} (l : List α) : (List.range l.length).map (fun i => l[i]?) = l.map some := by
  apply List.ext_getElem
  · simp
  · intro i h h'
    simp at h h'
    simp [h']
theorem va_nd_of {l : List Nat} (h : l.Nodup) : va_nd l = true := by
  induction l with
  | nil => rfl
  | cons a l ih =>
    obtain ⟨h1, h2⟩ := List.nodup_cons.mp h
    simp only [va_nd, Bool.and_eq_true, decide_eq_true_eq]
    exact ⟨h1, ih h2⟩
section
variable {p : Program} {l : Launch} {e : Env} {R : Room} {s : State} {m : MethodId} {args : Array Value} {below : List Frame} {meth : Method} {c : Code} {H : Heap} {locs : List Loc} {cells slots : Nat} {Q : State → Prop} {S : Type} {D : va_G} {A : Nat → Prop} {H0 : Heap} {mc ms pc : Nat} {ls : Array Slot} {st0 rest : List Value} {a : Array Value} {bs : List va_W} {wc : va_W} {w1 : S → va_W} {bs2 : S → List va_W}
theorem jnb {wr wc w1 : va_W} {H1 : Heap} (hP : va_P D vwCl (wr ++ wc) H) (hD : va_D A (wr ++ wc)) (hS : va_S A H0 H locs) (hA : ∀ q, H0.size ≤ q → A q) (hk : ∀ q : Nat, q < H.size → ¬ va_A wc H.size q → H1[q]? = H[q]?) (hP1 : va_P D vwCl w1 H1) (hD1 : va_D (va_A wc H.size) w1) : va_P D vwCl (wr ++ w1) H1 ∧ va_D A (wr ++ w1) := by
  have hC : ((List.range wc.length).map (fun i => wr.length + i)).map (fun i => (wr ++ wc)[i]?) = wc.map some := by
    rw [List.map_map]
    have : ((fun i => (wr ++ wc)[i]?) ∘ fun i => wr.length + i) = fun i => wc[i]? := by
      funext i
      simp [List.getElem?_append_right]
    rw [this]
    exact rg_get wc
  have hR : (List.range wr.length).map (fun i => (wr ++ wc)[i]?) = wr.map some := by
    rw [← rg_get wr]
    apply List.map_congr_left
    intro i hi
    exact List.getElem?_append_left (List.mem_range.mp hi)
  have hF := va_free hD hS hA _ hC
  exact va_join hP hD _ _ hC hR (va_nd_of List.nodup_range) (by
    intro i hi hc
    obtain ⟨j, -, rfl⟩ := List.mem_map.mp hc
    have := List.mem_range.mp hi
    omega) hk hF hP1 hD1
theorem fcb {wr wc : va_W} (hD : va_D A (wr ++ wc)) (hS : va_S A H0 H locs) (hA : ∀ q, H0.size ≤ q → A q) : ∀ q, va_A wc H.size q → A q := by
  have hC : ((List.range wc.length).map (fun i => wr.length + i)).map (fun i => (wr ++ wc)[i]?) = wc.map some := by
    rw [List.map_map]
    have : ((fun i => (wr ++ wc)[i]?) ∘ fun i => wr.length + i) = fun i => wc[i]? := by
      funext i
      simp [List.getElem?_append_right]
    rw [this]
    exact rg_get wc
  exact va_free hD hS hA _ hC
theorem sbP {wr wc : va_W} (h : va_P D vwCl (wr ++ wc) H) : va_P D vwCl wc H := vP_mem.mpr (fun q hq => vP_mem.mp h q (List.mem_append_right _ hq))
theorem sbD {wr wc : va_W} (h : va_D A (wr ++ wc)) : va_D (fun _ => True) wc := by
  obtain ⟨h1, -⟩ := vD_nd.mp h
  rw [List.map_append] at h1
  exact vD_nd.mpr ⟨(List.nodup_append.mp h1).2.1, fun _ _ => trivial⟩
theorem mkp_v {ws wr : va_W} {w2 : S → va_W} {post : S → Prop} (hP : va_P D vwCl ws H) (hD : va_D A ws) (hS : va_S A H0 H locs) (hA : ∀ q, H0.size ≤ q → A q) (hp : ws.Perm (wr ++ wc)) (hp2 : ∀ u, (w2 u).Perm (wr ++ w1 u))
    (hr : va_P D vwCl wc H → va_D (fun _ => True) wc → va_Run p l e R s m args below meth c H locs cells slots mc ms (F0 m pc ls st0) rest (va_Qv post (fun u t => BX D (w1 u) (va_A wc H.size) t) (va_A wc H.size) a) (va_A wc H.size))
    (kk : ∀ (u : S) (H1 : Heap) (locs1 : List Loc), post u → va_P D vwCl (w2 u) H1 → va_D A (w2 u) → va_S A H0 H1 locs1 → W p l e R s m args below meth c H1 locs1 (cells + mc) (slots + ms) Q (F0 m (pc + 3) ls rest)) : W p l e R s m args below meth c H locs cells slots Q (F0 m pc ls st0) := by
  have hP' := vP_perm hp hP
  have hD' := vD_perm hp hD
  have hF := fcb hD' hS hA
  refine va_callv (hr (sbP hP') (sbD hD')) hS (fun q _ h => hF q h) hF (fun u t H1 locs1 ht hvm hw hB hz1 hk1 hS1 => ?_)
  obtain ⟨hP1, hD1⟩ := hB
  rw [ht] at hP1
  obtain ⟨hP2, hD2⟩ := jnb hP' hD' hS hA hk1 hP1 hD1
  exact kk u H1 locs1 hw (vP_perm (hp2 u).symm hP2) (vD_perm (hp2 u).symm hD2) hS1
theorem mkp_i {ws wr : va_W} {w2 : S → va_W} {post : Int32 → S → Prop} (hP : va_P D vwCl ws H) (hD : va_D A ws) (hS : va_S A H0 H locs) (hA : ∀ q, H0.size ≤ q → A q) (hp : ws.Perm (wr ++ wc)) (hp2 : ∀ u, (w2 u).Perm (wr ++ w1 u))
    (hr : va_P D vwCl wc H → va_D (fun _ => True) wc → va_Run p l e R s m args below meth c H locs cells slots mc ms (F0 m pc ls st0) rest (va_Qi post (fun u t => BX D (w1 u) (va_A wc H.size) t) (va_A wc H.size) a) (va_A wc H.size))
    (kk : ∀ (r : Int32) (u : S) (H1 : Heap) (locs1 : List Loc), post r u → va_P D vwCl (w2 u) H1 → va_D A (w2 u) → va_S A H0 H1 locs1 → W p l e R s m args below meth c H1 locs1 (cells + mc) (slots + ms) Q (F0 m (pc + 3) ls (.int r :: rest))) : W p l e R s m args below meth c H locs cells slots Q (F0 m pc ls st0) := by
  have hP' := vP_perm hp hP
  have hD' := vD_perm hp hD
  have hF := fcb hD' hS hA
  refine va_calli (hr (sbP hP') (sbD hD')) hS (fun q _ h => hF q h) hF (fun r u t H1 locs1 ht hvm hw hB hz1 hk1 hS1 => ?_)
  obtain ⟨hP1, hD1⟩ := hB
  rw [ht] at hP1
  obtain ⟨hP2, hD2⟩ := jnb hP' hD' hS hA hk1 hP1 hD1
  exact kk r u H1 locs1 hw (vP_perm (hp2 u).symm hP2) (vD_perm (hp2 u).symm hD2) hS1
theorem mkp_l {ws wr : va_W} {w2 : S → va_W} {post : Int64 → S → Prop} (hP : va_P D vwCl ws H) (hD : va_D A ws) (hS : va_S A H0 H locs) (hA : ∀ q, H0.size ≤ q → A q) (hp : ws.Perm (wr ++ wc)) (hp2 : ∀ u, (w2 u).Perm (wr ++ w1 u))
    (hr : va_P D vwCl wc H → va_D (fun _ => True) wc → va_Run p l e R s m args below meth c H locs cells slots mc ms (F0 m pc ls st0) rest (va_Ql post (fun u t => BX D (w1 u) (va_A wc H.size) t) (va_A wc H.size) a) (va_A wc H.size))
    (kk : ∀ (r : Int64) (u : S) (H1 : Heap) (locs1 : List Loc), post r u → va_P D vwCl (w2 u) H1 → va_D A (w2 u) → va_S A H0 H1 locs1 → W p l e R s m args below meth c H1 locs1 (cells + mc) (slots + ms) Q (F0 m (pc + 3) ls (.long r :: rest))) : W p l e R s m args below meth c H locs cells slots Q (F0 m pc ls st0) := by
  have hP' := vP_perm hp hP
  have hD' := vD_perm hp hD
  have hF := fcb hD' hS hA
  refine va_calll (hr (sbP hP') (sbD hD')) hS (fun q _ h => hF q h) hF (fun r u t H1 locs1 ht hvm hw hB hz1 hk1 hS1 => ?_)
  obtain ⟨hP1, hD1⟩ := hB
  rw [ht] at hP1
  obtain ⟨hP2, hD2⟩ := jnb hP' hD' hS hA hk1 hP1 hD1
  exact kk r u H1 locs1 hw (vP_perm (hp2 u).symm hP2) (vD_perm (hp2 u).symm hD2) hS1
end
