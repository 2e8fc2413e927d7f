/-! PURE: a debtor as a tuple; telling, serving, a week as pure functions -/
abbrev Dt : Type := Nat × Nat × Nat × Nat × Nat × (Nat → Nat) × (Nat → Nat)
abbrev dk (d : Dt) : Nat := d.1
abbrev dm (d : Dt) : Nat := d.2.1
abbrev dd (d : Dt) : Nat := d.2.2.1
abbrev dr (d : Dt) : Nat := d.2.2.2.1
abbrev ds (d : Dt) : Nat := d.2.2.2.2.1
abbrev dbk (d : Dt) : Nat → Nat := d.2.2.2.2.2.1
abbrev dwk (d : Dt) : Nat → Nat := d.2.2.2.2.2.2
def dB (d : Dt) : Nat := bks (dbk d) (ds d)
def DXt (μ : Mem) (c : Nat) (d : Dt) : Prop := DX μ c (dk d) (dm d) (dd d) (dr d) (ds d) (dbk d) (dwk d)
def DMt (μ : Mem) (D p : Nat) (d : Dt) : Prop := DM μ D p (dk d) (dm d) (dd d) (dr d) (ds d) (dbk d) (dwk d)
def DWt (n w : Nat) (d : Dt) : Prop := DW n w (dk d) (dm d) (dd d) (dr d) (ds d) (dbk d) (dwk d)
def TXt (μ : Mem) (t N w : Nat) (T : Nat → Dt) : Prop := rd μ t 3 = nI N ∧ rd μ t 4 = nI w ∧ ∀ p, p < N → DXt μ (t + 2 + 3 * p) (T p)
def TMt (μ : Mem) (D N w : Nat) (T : Nat → Dt) : Prop := rd μ D 1 = nI N ∧ rd μ D 3 = nI w ∧ ∀ p, p < N → DMt μ D p (T p)
def TWt (n N w : Nat) (T : Nat → Dt) : Prop := N ≤ 4 ∧ w ≤ 5000 ∧ ∀ p, p < N → DWt n w (T p)
theorem TX_T {μ : Mem} {t N w : Nat} {T : Nat → Dt} (n : Nat) (h : TXt μ t N w T) : TX μ t n N w (fun p => dk (T p)) (fun p => dm (T p)) (fun p => dd (T p)) (fun p => dr (T p)) (fun p => ds (T p)) (fun p => dbk (T p)) (fun p => dwk (T p)) := h
theorem TM_T {μ : Mem} {D N w : Nat} {T : Nat → Dt} (n : Nat) (h : TMt μ D N w T) : TM μ D n N w (fun p => dk (T p)) (fun p => dm (T p)) (fun p => dd (T p)) (fun p => dr (T p)) (fun p => ds (T p)) (fun p => dbk (T p)) (fun p => dwk (T p)) := h
/-- what comes out of the relation, and goes back -/
theorem RFT_T {μx : Mem} {f t : Nat} {μm : Mem} {D W : Nat} (hW : W ≤ 5000) (H : RFT μx f t μm D W) : ∃ (n : Nat) (nd cl wi wt : Nat → Nat) (bi : Nat → Int32) (N w : Nat) (T : Nat → Dt), FX μx f n nd cl wi wt bi ∧ FM μm D n nd cl wi wt bi ∧ FW n nd cl wi wt bi ∧ TXt μx t N w T ∧ TMt μm D N w T ∧ TWt n N w T ∧ w ≤ W := by
  obtain ⟨n, nd, cl, wi, wt, bi, N, w, kd, m, db, br, s, bk, wk, h1, h2, h3, h4, h5, h6⟩ := H.2
  exact ⟨n, nd, cl, wi, wt, bi, N, w, fun p => (kd p, m p, db p, br p, s p, bk p, wk p), h1, h2, h3, h4, h5, ⟨h6.1, Nat.le_trans h6.2.1 hW, h6.2.2⟩, h6.2.1⟩
theorem T_RFT {μx : Mem} {f t : Nat} {μm : Mem} {D W : Nat} {n : Nat} {nd cl wi wt : Nat → Nat} {bi : Nat → Int32} {N w : Nat} {T : Nat → Dt} (h1 : FX μx f n nd cl wi wt bi) (h2 : FM μm D n nd cl wi wt bi) (h3 : FW n nd cl wi wt bi) (h4 : TXt μx t N w T) (h5 : TMt μm D N w T) (h6 : TWt n N w T) (h7 : w ≤ W) : RFE μx f t μm D W := ⟨n, nd, cl, wi, wt, bi, N, w, fun p => dk (T p), fun p => dm (T p), fun p => dd (T p), fun p => dr (T p), fun p => ds (T p), fun p => dbk (T p), fun p => dwk (T p), h1, h2, h3, h4, h5, ⟨h6.1, h7, h6.2.2⟩⟩
theorem inj_le : ∀ (n s : Nat) (bk : Nat → Nat), (∀ i, i < s → bk i < n) → (∀ i j, i < s → j < s → bk i = bk j → i = j) → s ≤ n := by
  intro n
  induction n with
  | zero =>
    intro s bk h1 _
    by_cases z : s = 0
    · omega
    · have := h1 0 (by omega)
      omega
  | succ n ih =>
    intro s bk h1 h2
    by_cases q : ∃ i0, i0 < s ∧ bk i0 = n
    · obtain ⟨i0, hi0, e0⟩ := q
      have := ih (s - 1) (fun i => bk (if i < i0 then i else i + 1)) (fun i hi => ?_) (fun i j hi hj e => ?_)
      · omega
      · show bk (if i < i0 then i else i + 1) < n
        by_cases z : i < i0
        · rw [if_pos z]
          have a1 := h1 i (by omega)
          have a2 : bk i ≠ n := fun y => by have := h2 i i0 (by omega) hi0 (by rw [y, e0]); omega
          omega
        · rw [if_neg z]
          have a1 := h1 (i + 1) (by omega)
          have a2 : bk (i + 1) ≠ n := fun y => by have := h2 (i + 1) i0 (by omega) hi0 (by rw [y, e0]); omega
          omega
      · have e : bk (if i < i0 then i else i + 1) = bk (if j < i0 then j else j + 1) := e
        by_cases z : i < i0
        · rw [if_pos z] at e
          by_cases y : j < i0
          · rw [if_pos y] at e
            exact h2 i j (by omega) (by omega) e
          · rw [if_neg y] at e
            have := h2 i (j + 1) (by omega) (by omega) e
            omega
        · rw [if_neg z] at e
          by_cases y : j < i0
          · rw [if_pos y] at e
            have := h2 (i + 1) j (by omega) (by omega) e
            omega
          · rw [if_neg y] at e
            have := h2 (i + 1) (j + 1) (by omega) (by omega) e
            omega
    · have := ih s bk (fun i hi => by
        have a1 := h1 i hi
        have a2 : bk i ≠ n := fun y => q ⟨i, hi, y⟩
        omega) h2
      omega
theorem bks_cg {bk bk' : Nat → Nat} : ∀ s, (∀ i, i < s → bk i = bk' i) → bks bk s = bks bk' s := by
  intro s
  induction s with
  | zero => intro _; rfl
  | succ s ih => intro h; rw [bks, bks, ih (fun i hi => h i (by omega)), h s (by omega)]
theorem up_up {α : Type} (f : Nat → α) (i : Nat) (a b : α) : up (up f i a) i b = up f i b := by
  funext j
  unfold up
  split <;> rfl
theorem up_id {α : Type} (f : Nat → α) (i : Nat) : up f i (f i) = f := by
  funext j
  unfold up
  split
  · rename_i h; rw [h]
  · rfl
/-- the least that holds; n: none -/
def fstE (E : Nat → Bool) (n : Nat) : Nat := alk (fun k => !E k) n 0
theorem alk_spec (E : Nat → Bool) : ∀ r k, (∀ i, k ≤ i → i < alk E r k → E i = true) ∧ k ≤ alk E r k ∧ alk E r k ≤ k + r ∧ (alk E r k < k + r → E (alk E r k) = false) := by
  intro r
  induction r with
  | zero => intro k; exact ⟨fun i h1 h2 => by simp only [alk] at h2; omega, Nat.le_refl _, Nat.le_refl _, fun h => by simp only [alk] at h; omega⟩
  | succ r ih =>
    intro k
    obtain ⟨h1, h2, h3, h4⟩ := ih (k + 1)
    cases e : E k
    · rw [alk, if_neg (by rw [e]; decide)]
      exact ⟨fun i a b => by omega, Nat.le_refl _, by omega, fun _ => e⟩
    · rw [alk, if_pos e]
      refine ⟨fun i a b => ?_, by omega, by omega, fun h => h4 (by omega)⟩
      by_cases z : i = k
      · rw [z]; exact e
      · exact h1 i (by omega) b
theorem fstE_spec (E : Nat → Bool) (n : Nat) : (∀ i, i < fstE E n → E i = false) ∧ fstE E n ≤ n ∧ (fstE E n < n → E (fstE E n) = true) := by
  obtain ⟨h1, h2, h3, h4⟩ := alk_spec (fun k => !E k) n 0
  refine ⟨fun i hi => ?_, by unfold fstE; omega, fun h => ?_⟩
  · have := h1 i (by omega) hi
    simpa using this
  · have := h4 (by unfold fstE at h; omega)
    unfold fstE
    simpa using this
theorem fstE_uniq {E : Nat → Bool} {n f : Nat} (h1 : ∀ i, i < f → E i = false) (h2 : f ≤ n) (h3 : f < n → E f = true) : fstE E n = f := by
  obtain ⟨a1, a2, a3⟩ := fstE_spec E n
  rcases Nat.lt_trichotomy (fstE E n) f with h | h | h
  · have := h1 _ h
    rw [a3 (by omega)] at this
    cases this
  · exact h
  · have := a1 f h
    rw [h3 (by omega)] at this
    cases this
def paid (gv : Nat → Nat → Nat → Nat) (kd f w d : Nat) : Nat := if kd = 1 ∨ kd = 4 then gv f w d / 2 else if kd = 5 then gv f w d * 2 else gv f w d
def tellD (gv : Nat → Nat → Nat → Nat) (w f : Nat) (d : Dt) : Dt := (dk d, dm d, dd d - paid gv (dk d) f w (dd d), dr d, ds d + 1, up (dbk d) (ds d) f, up (dwk d) (ds d) w)
def brkD (d : Dt) : Dt := (dk d, dm d, dd d, 1, ds d, dbk d, dwk d)
def mayD (nd cl : Nat → Nat) (O : Nat) (d : Dt) : Nat → Bool := mtE nd cl (dk d) (dm d) (dB d) O
def stepD (n : Nat) (nd cl : Nat → Nat) (gv : Nat → Nat → Nat → Nat) (O w : Nat) (d : Dt) : Dt := if fstE (mayD nd cl O d) n < n then tellD gv w (fstE (mayD nd cl O d) n) d else brkD d
def srvL (n : Nat) (nd cl : Nat → Nat) (gv : Nat → Nat → Nat → Nat) (O w : Nat) : Nat → Dt → Dt
  | 0, d => d
  | k + 1, d => if 0 < dd d ∧ dr d = 0 then srvL n nd cl gv O w k (stepD n nd cl gv O w d) else d
def endD (wi : Nat → Nat) (bi : Nat → Int32) (w : Nat) (d : Dt) : Dt := if odB wi bi (dbk d) (dwk d) (ds d) w = true then brkD d else d
def srvD (n : Nat) (nd cl wi : Nat → Nat) (bi : Nat → Int32) (gv : Nat → Nat → Nat → Nat) (O w k : Nat) (d : Dt) : Dt := endD wi bi w (srvL n nd cl gv O w k d)
def dueD (d : Dt) : Nat := if dk d = 3 then 2 else if dk d = 4 then 1 + dm d % 2 else if dk d = 6 then 2 - dm d % 2 else 1
def wkT (n : Nat) (nd cl wi : Nat → Nat) (bi : Nat → Int32) (gv : Nat → Nat → Nat → Nat) (N w r0 r : Nat) : Nat → (Nat → Dt) → (Nat → Dt)
  | 0, T => T
  | p + 1, T => (fun T' => if dr (T' p) = 0 ∧ 0 < dd (T' p) then up T' p (srvD n nd cl wi bi gv (oth (fun q => dB (T' q)) p N) w (if p = r0 then r else dueD (T' p)) (T' p)) else T') (wkT n nd cl wi bi gv N w r0 r p T)
/-- so many weeks from week w on -/
def wksT (n : Nat) (nd cl wi : Nat → Nat) (bi : Nat → Int32) (gv : Nat → Nat → Nat → Nat) (N w r0 r : Nat) : Nat → (Nat → Dt) → (Nat → Dt)
  | 0, T => T
  | k + 1, T => wkT n nd cl wi bi gv N (w + k) r0 r N (wksT n nd cl wi bi gv N w r0 r k T)
theorem paid_le {gv : Nat → Nat → Nat → Nat} (hg : ∀ f w d, gv f w d ≤ 999) (kd f w d : Nat) : paid gv kd f w d ≤ 1998 := by
  have := hg f w d
  unfold paid
  split
  · omega
  · split <;> omega
theorem DW_tell {n w : Nat} {gv : Nat → Nat → Nat → Nat} {d : Dt} {f : Nat} (hn : n ≤ 8) (h : DWt n w d) (hf : f < n) (hb : (dB d).testBit f = false) : DWt n w (tellD gv w f d) ∧ ds d < 8 ∧ ∀ i, i < ds d → dbk d i ≠ f := by
  obtain ⟨h1, h2, h3, h4, h5, h6, h7⟩ := h
  have nb : ∀ i, i < ds d → dbk d i ≠ f := fun i hi e => by
    have : (dB d).testBit f = true := bks_tb.mpr ⟨i, hi, e⟩
    rw [hb] at this
    cases this
  have inj : ∀ i j, i < ds d + 1 → j < ds d + 1 → up (dbk d) (ds d) f i = up (dbk d) (ds d) f j → i = j := by
    intro i j hi hj e
    by_cases zi : i = ds d
    · by_cases zj : j = ds d
      · omega
      · rw [zi, up_s, up_n zj] at e
        exact absurd e.symm (nb j (by omega))
    · by_cases zj : j = ds d
      · rw [zj, up_s, up_n zi] at e
        exact absurd e (nb i (by omega))
      · rw [up_n zi, up_n zj] at e
        exact h7 i j (by omega) (by omega) e
  have lt : ∀ i, i < ds d + 1 → up (dbk d) (ds d) f i < n := by
    intro i hi
    by_cases zi : i = ds d
    · rw [zi, up_s]; exact hf
    · rw [up_n zi]; exact (h6 i (by omega)).1
  have le := inj_le n (ds d + 1) _ lt inj
  refine ⟨⟨h1, h2, ?_, h4, ?_, fun i hi => ⟨lt i hi, ?_⟩, inj⟩, by omega, nb⟩
  · show dd d - paid gv (dk d) f w (dd d) ≤ 9999
    have : dd d ≤ 9999 := h3
    omega
  · show ds d + 1 ≤ 8
    omega
  · show up (dwk d) (ds d) w i ≤ w
    by_cases zi : i = ds d
    · rw [zi, up_s]; exact Nat.le_refl _
    · rw [up_n zi]; exact (h6 i (by have : i < ds d + 1 := hi; omega)).2
theorem DW_brk {n w : Nat} {d : Dt} (h : DWt n w d) : DWt n w (brkD d) := by
  obtain ⟨h1, h2, h3, h4, h5, h6, h7⟩ := h
  exact ⟨h1, h2, h3, Nat.le_refl 1, h5, h6, h7⟩
theorem DWt_B {n w : Nat} {d : Dt} (hn : n ≤ 8) (h : DWt n w d) : dB d < 256 := bks_256 _ (fun i hi => Nat.lt_of_lt_of_le (h.2.2.2.2.2.1 i hi).1 hn)
theorem may_nb {nd cl : Nat → Nat} {O : Nat} {d : Dt} {f : Nat} (h : mayD nd cl O d f = true) : (dB d).testBit f = false := by
  rw [mayD, mtE, Bool.and_eq_true] at h
  simpa using h.1
theorem DW_step {n w : Nat} {nd cl : Nat → Nat} {gv : Nat → Nat → Nat → Nat} {O : Nat} {d : Dt} (hn : n ≤ 8) (h : DWt n w d) : DWt n w (stepD n nd cl gv O w d) := by
  unfold stepD
  split
  · rename_i z
    exact (DW_tell hn h z (may_nb ((fstE_spec _ n).2.2 z))).1
  · exact DW_brk h
theorem DW_srvL {n w : Nat} {nd cl : Nat → Nat} {gv : Nat → Nat → Nat → Nat} {O : Nat} (hn : n ≤ 8) : ∀ k (d : Dt), DWt n w d → DWt n w (srvL n nd cl gv O w k d) := by
  intro k
  induction k with
  | zero => intro d h; exact h
  | succ k ih =>
    intro d h
    rw [srvL]
    split
    · exact ih _ (DW_step hn h)
    · exact h
theorem DW_srvD {n w : Nat} {nd cl wi : Nat → Nat} {bi : Nat → Int32} {gv : Nat → Nat → Nat → Nat} {O k : Nat} {d : Dt} (hn : n ≤ 8) (h : DWt n w d) : DWt n w (srvD n nd cl wi bi gv O w k d) := by
  unfold srvD endD
  split
  · exact DW_brk (DW_srvL hn k d h)
  · exact DW_srvL hn k d h
theorem TW_up {n N w : Nat} {T : Nat → Dt} {p : Nat} {d : Dt} (h : TWt n N w T) (hd : DWt n w d) : TWt n N w (up T p d) := by
  refine ⟨h.1, h.2.1, fun q hq => ?_⟩
  by_cases e : q = p
  · rw [e, up_s]; exact hd
  · rw [up_n e]; exact h.2.2 q hq
theorem TW_wk {n N w : Nat} {nd cl wi : Nat → Nat} {bi : Nat → Int32} {gv : Nat → Nat → Nat → Nat} {r0 r : Nat} (hn : n ≤ 8) {T : Nat → Dt} (h : TWt n N w T) : ∀ p, p ≤ N → TWt n N w (wkT n nd cl wi bi gv N w r0 r p T) := by
  intro p
  induction p with
  | zero => intro _; exact h
  | succ p ih =>
    intro hp
    have := ih (by omega)
    rw [wkT]
    generalize wkT n nd cl wi bi gv N w r0 r p T = T' at this
    show TWt n N w (if dr (T' p) = 0 ∧ 0 < dd (T' p) then up T' p (srvD n nd cl wi bi gv (oth (fun q => dB (T' q)) p N) w (if p = r0 then r else dueD (T' p)) (T' p)) else T')
    by_cases z : dr (T' p) = 0 ∧ 0 < dd (T' p)
    · rw [if_pos z]
      exact TW_up this (DW_srvD hn (this.2.2 p (by omega)))
    · rw [if_neg z]
      exact this
theorem TW_next {n N w : Nat} {T : Nat → Dt} (hw : w + 1 ≤ 5000) (h : TWt n N w T) : TWt n N (w + 1) T := ⟨h.1, hw, fun p hp => DW_mono (Nat.le_refl _) (Nat.le_succ _) (h.2.2 p hp)⟩
theorem TW_wks {n N w : Nat} {nd cl wi : Nat → Nat} {bi : Nat → Int32} {gv : Nat → Nat → Nat → Nat} {r0 r : Nat} (hn : n ≤ 8) {T : Nat → Dt} (h : TWt n N w T) : ∀ k, w + k ≤ 5000 → TWt n N (w + k) (wksT n nd cl wi bi gv N w r0 r k T) := by
  intro k
  induction k with
  | zero => intro _; exact h
  | succ k ih =>
    intro hk
    rw [wksT]
    exact TW_next (by omega) (TW_wk hn (ih (by omega)) N (Nat.le_refl _))
