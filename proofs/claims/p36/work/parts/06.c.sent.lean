/-! what a SENTENCE's text comes to: ONES within one another (true: a bracket, false: a not) -/
def dN : List Bool → List Bool
  | [] => []
  | true :: l => true :: l
  | false :: l => dN l
theorem dN_f {l : List Bool} : dN (false :: l) = dN l := rfl
theorem dN_t {l : List Bool} : dN (true :: l) = true :: l := rfl
abbrev SS : Type := List Bool × Int × Int × Tok
/-- a ONE of a WORD w, behind the WORD -/
def sLf (T : Int → Tok) (ms : List Int) (w : Int) (t : Tok) : Sum Flt Tok :=
  if w = 18 then bnd (nmx T t ms []) (fun u => .inr u.2)
  else if 19 ≤ w then (if t.1 = 3 ∧ 60 ≤ t.2.2.1 ∧ t.2.2.1 ≤ 62 then num T (T t.2.2.2.2) 0 999 else .inl (1, t.2.1))
  else .inr t
def sLo (fr : List Bool) (o : Int) : Sum Flt Tok → Sum (Sum Flt Int) SS
  | .inl e => .inl (.inl e)
  | .inr u => .inr (fr, 1, o, u)
abbrev sBeg (t : Tok) : Prop := (t.1 = 3 ∧ t.2.2.1 = 40) ∨ (t.1 = 1 ∧ (wix t.2.2.2.1 = 8 ∨ 16 ≤ wix t.2.2.2.1))
abbrev sJn (t : Tok) : Prop := t.1 = 1 ∧ (wix t.2.2.2.1 = 14 ∨ wix t.2.2.2.1 = 15)
def sStp (T : Int → Tok) (ms : List Int) (fr : List Bool) (wh o : Int) (t : Tok) : Sum (Sum Flt Int) SS :=
  if wh = 1 then
    (if t.1 = 0 then (if dN fr = [] then .inl (.inr o) else .inl (.inl (1, t.2.1)))
    else if sJn t then .inr (dN fr, 0, o, T t.2.2.2.2)
    else if t.1 = 3 ∧ t.2.2.1 = 41 ∧ dN fr ≠ [] then .inr ((dN fr).tail, 1, o, T t.2.2.2.2)
    else .inl (.inl (1, t.2.1)))
  else if sBeg t then
    (if 20 ≤ o ∨ 8 ≤ (fr.length : Int) then .inl (.inl (4, t.2.1))
    else if t.1 = 3 then .inr (true :: fr, 0, o + 1, T t.2.2.2.2)
    else if wix t.2.2.2.1 = 16 then .inr (false :: fr, 0, o + 1, T t.2.2.2.2)
    else sLo fr (o + 1) (sLf T ms (wix t.2.2.2.1) (T t.2.2.2.2)))
  else .inl (.inl (1, t.2.1))
def sRn (T : Int → Tok) (ms : List Int) : Nat → SS → Option (Sum Flt Int)
  | 0, _ => none
  | n + 1, s => Sum.elim (fun r => some r) (fun s2 => sRn T ms n s2) (sStp T ms s.1 s.2.1 s.2.2.1 s.2.2.2)
def Gos (T : Int → Tok) (ms : List Int) (s : SS) (r : Sum Flt Int) : Prop := ∃ n : Nat, sRn T ms n s = some r
theorem Gos.st {T : Int → Tok} {ms : List Int} {fr : List Bool} {wh o : Int} {t : Tok} {s2 : SS} {r : Sum Flt Int} (h : sStp T ms fr wh o t = .inr s2) (g : Gos T ms s2 r) : Gos T ms (fr, wh, o, t) r := by
  obtain ⟨n, e⟩ := g
  refine ⟨n + 1, ?_⟩
  show Sum.elim (fun r => some r) (fun s2 => sRn T ms n s2) (sStp T ms fr wh o t) = some r
  rw [h]
  exact e
theorem Gos.en {T : Int → Tok} {ms : List Int} {fr : List Bool} {wh o : Int} {t : Tok} {r : Sum Flt Int} (h : sStp T ms fr wh o t = .inl r) : Gos T ms (fr, wh, o, t) r := by
  refine ⟨1, ?_⟩
  show Sum.elim (fun r => some r) (fun s2 => sRn T ms 0 s2) (sStp T ms fr wh o t) = some r
  rw [h]
  exact rfl
theorem sRn_up {T : Int → Tok} {ms : List Int} : ∀ (n k : Nat) (s : SS) (r : Sum Flt Int), sRn T ms n s = some r → sRn T ms (n + k) s = some r := by
  intro n
  induction n with
  | zero => intro k s r h; exact absurd (show (none : Option (Sum Flt Int)) = some r from h) (fun q => nomatch q)
  | succ n ih =>
    intro k s r h
    have h2 : Sum.elim (fun r => some r) (fun s2 => sRn T ms n s2) (sStp T ms s.1 s.2.1 s.2.2.1 s.2.2.2) = some r := h
    rw [show n + 1 + k = (n + k) + 1 by omega]
    show Sum.elim (fun r => some r) (fun s2 => sRn T ms (n + k) s2) (sStp T ms s.1 s.2.1 s.2.2.1 s.2.2.2) = some r
    rcases hs : sStp T ms s.1 s.2.1 s.2.2.1 s.2.2.2 with a | b
    · rw [hs] at h2
      exact h2
    · rw [hs] at h2
      exact ih k b r h2
theorem Gos.un {T : Int → Tok} {ms : List Int} {s : SS} {r r2 : Sum Flt Int} (h : Gos T ms s r) (h2 : Gos T ms s r2) : r = r2 := by
  obtain ⟨n, e⟩ := h
  obtain ⟨k, e2⟩ := h2
  have a := sRn_up n k s r e
  have b := sRn_up k n s r2 e2
  rw [show k + n = n + k by omega, a] at b
  exact Option.some.inj b
/-! the steps -/
theorem ss_end {T : Int → Tok} {ms : List Int} {fr : List Bool} {o : Int} {t : Tok} (h : t.1 = 0) (hd : dN fr = []) : sStp T ms fr 1 o t = .inl (.inr o) := by
  unfold sStp
  rw [if_pos rfl, if_pos h, if_pos hd]
theorem ss_enF {T : Int → Tok} {ms : List Int} {fr : List Bool} {o : Int} {t : Tok} (h : t.1 = 0) (hd : dN fr ≠ []) : sStp T ms fr 1 o t = .inl (.inl (1, t.2.1)) := by
  unfold sStp
  rw [if_pos rfl, if_pos h, if_neg hd]
theorem ss_jn {T : Int → Tok} {ms : List Int} {fr : List Bool} {o : Int} {t : Tok} (h : sJn t) : sStp T ms fr 1 o t = .inr (dN fr, 0, o, T t.2.2.2.2) := by
  unfold sStp
  rw [if_pos rfl, if_neg (by have := h.1; omega), if_pos h]
theorem ss_cl {T : Int → Tok} {ms : List Int} {fr : List Bool} {o : Int} {t : Tok} (h : t.1 = 3) (hv : t.2.2.1 = 41) (hd : dN fr ≠ []) : sStp T ms fr 1 o t = .inr ((dN fr).tail, 1, o, T t.2.2.2.2) := by
  unfold sStp
  rw [if_pos rfl, if_neg (by omega), if_neg (fun q => by have := q.1; omega), if_pos ⟨h, hv, hd⟩]
theorem ss_no {T : Int → Tok} {ms : List Int} {fr : List Bool} {o : Int} {t : Tok} (h0 : t.1 ≠ 0) (hj : ¬ sJn t) (h : ¬ (t.1 = 3 ∧ t.2.2.1 = 41 ∧ dN fr ≠ [])) : sStp T ms fr 1 o t = .inl (.inl (1, t.2.1)) := by
  unfold sStp
  rw [if_pos rfl, if_neg h0, if_neg hj, if_neg h]
theorem ss_bg {T : Int → Tok} {ms : List Int} {fr : List Bool} {o : Int} {t : Tok} (h : ¬ sBeg t) : sStp T ms fr 0 o t = .inl (.inl (1, t.2.1)) := by
  unfold sStp
  rw [if_neg (by decide), if_neg h]
theorem ss_mn {T : Int → Tok} {ms : List Int} {fr : List Bool} {o : Int} {t : Tok} (h : sBeg t) (hm : 20 ≤ o ∨ 8 ≤ (fr.length : Int)) : sStp T ms fr 0 o t = .inl (.inl (4, t.2.1)) := by
  unfold sStp
  rw [if_neg (by decide), if_pos h, if_pos hm]
theorem ss_op {T : Int → Tok} {ms : List Int} {fr : List Bool} {o : Int} {t : Tok} (h : t.1 = 3) (hv : t.2.2.1 = 40) (hm : ¬ (20 ≤ o ∨ 8 ≤ (fr.length : Int))) : sStp T ms fr 0 o t = .inr (true :: fr, 0, o + 1, T t.2.2.2.2) := by
  unfold sStp
  rw [if_neg (by decide), if_pos (Or.inl ⟨h, hv⟩), if_neg hm, if_pos h]
theorem ss_nt {T : Int → Tok} {ms : List Int} {fr : List Bool} {o : Int} {t : Tok} (h : t.1 = 1) (hw : wix t.2.2.2.1 = 16) (hm : ¬ (20 ≤ o ∨ 8 ≤ (fr.length : Int))) : sStp T ms fr 0 o t = .inr (false :: fr, 0, o + 1, T t.2.2.2.2) := by
  unfold sStp
  rw [if_neg (by decide), if_pos (Or.inr ⟨h, Or.inr (by omega)⟩), if_neg hm, if_neg (by omega), if_pos hw]
theorem ss_lf {T : Int → Tok} {ms : List Int} {fr : List Bool} {o : Int} {t : Tok} (h : t.1 = 1) (hw : wix t.2.2.2.1 = 8 ∨ 17 ≤ wix t.2.2.2.1) (hm : ¬ (20 ≤ o ∨ 8 ≤ (fr.length : Int))) : sStp T ms fr 0 o t = sLo fr (o + 1) (sLf T ms (wix t.2.2.2.1) (T t.2.2.2.2)) := by
  unfold sStp
  rw [if_neg (by decide), if_pos (Or.inr ⟨h, by omega⟩), if_neg hm, if_neg (by omega), if_neg (by omega)]
/-! a ONE, an ALL or COND as it is read from left to right: d ONES are around it -/
def SOk (T : Int → Tok) (ms : List Int) (d : Nat) (o : Int) (t : Tok) (o2 : Int) (t2 : Tok) : Prop := ∀ fr : List Bool, fr.length = d → ∀ r : Sum Flt Int, Gos T ms (fr, 1, o2, t2) r → Gos T ms (fr, 0, o, t) r
def SNo (T : Int → Tok) (ms : List Int) (d : Nat) (o : Int) (t : Tok) (e : Flt) : Prop := ∀ fr : List Bool, fr.length = d → Gos T ms (fr, 0, o, t) (.inl e)
def SOa (T : Int → Tok) (ms : List Int) (d : Nat) (o : Int) (t : Tok) (o2 : Int) (t2 : Tok) : Prop := ∀ fr : List Bool, fr.length = d → dN fr = fr → ∀ r : Sum Flt Int, Gos T ms (fr, 1, o2, t2) r → Gos T ms (fr, 0, o, t) r
def SNa (T : Int → Tok) (ms : List Int) (d : Nat) (o : Int) (t : Tok) (e : Flt) : Prop := ∀ fr : List Bool, fr.length = d → dN fr = fr → Gos T ms (fr, 0, o, t) (.inl e)
theorem so_1 {T : Int → Tok} {ms : List Int} {d : Nat} {o : Int} {t : Tok} {e : Flt} (h : ¬ sBeg t) (he : e = (1, t.2.1)) : SNo T ms d o t e := fun _ _ => by rw [he]; exact Gos.en (ss_bg h)
theorem so_4 {T : Int → Tok} {ms : List Int} {d : Nat} {o : Int} {t : Tok} {e : Flt} (h : sBeg t) (hm : 20 ≤ o ∨ 8 ≤ (d : Int)) (he : e = (4, t.2.1)) : SNo T ms d o t e := fun fr hf => by rw [he]; exact Gos.en (ss_mn h (by rw [hf]; exact hm))
theorem so_lf {T : Int → Tok} {ms : List Int} {d : Nat} {o o2 : Int} {t t1 t2 : Tok} (h : t.1 = 1) (hw : wix t.2.2.2.1 = 8 ∨ 17 ≤ wix t.2.2.2.1) (hm : ¬ (20 ≤ o ∨ 8 ≤ (d : Int))) (h1 : t1 = T t.2.2.2.2) (hl : sLf T ms (wix t.2.2.2.1) t1 = .inr t2) (ho : o2 = o + 1) : SOk T ms d o t o2 t2 := fun fr hf r g => by
  refine Gos.st (s2 := (fr, 1, o2, t2)) ?_ g
  rw [ss_lf h hw (by rw [hf]; exact hm), ← h1, hl, ho]
  exact rfl
theorem so_lfF {T : Int → Tok} {ms : List Int} {d : Nat} {o : Int} {t t1 : Tok} {e : Flt} (h : t.1 = 1) (hw : wix t.2.2.2.1 = 8 ∨ 17 ≤ wix t.2.2.2.1) (hm : ¬ (20 ≤ o ∨ 8 ≤ (d : Int))) (h1 : t1 = T t.2.2.2.2) (hl : sLf T ms (wix t.2.2.2.1) t1 = .inl e) : SNo T ms d o t e := fun fr hf => by
  refine Gos.en ?_
  rw [ss_lf h hw (by rw [hf]; exact hm), ← h1, hl]
  exact rfl
theorem gos_dN {T : Int → Tok} {ms : List Int} {fr : List Bool} {o : Int} {t : Tok} {r : Sum Flt Int} (g : Gos T ms (fr, 1, o, t) r) : Gos T ms (false :: fr, 1, o, t) r := by
  obtain ⟨n, e⟩ := g
  cases n with
  | zero => exact absurd (show (none : Option (Sum Flt Int)) = some r from e) (fun q => nomatch q)
  | succ n => exact ⟨n + 1, e⟩
theorem so_nt {T : Int → Tok} {ms : List Int} {d : Nat} {o o1 o2 : Int} {t t1 t2 : Tok} (h : t.1 = 1) (hw : wix t.2.2.2.1 = 16) (hm : ¬ (20 ≤ o ∨ 8 ≤ (d : Int))) (h1 : t1 = T t.2.2.2.2) (ho : o1 = o + 1) (hk : SOk T ms (d + 1) o1 t1 o2 t2) : SOk T ms d o t o2 t2 := fun fr hf r g => by
  refine Gos.st (ss_nt h hw (by rw [hf]; exact hm)) ?_
  rw [← h1, ← ho]
  exact hk (false :: fr) (by rw [List.length_cons, hf]) r (gos_dN g)
theorem so_ntF {T : Int → Tok} {ms : List Int} {d : Nat} {o o1 : Int} {t t1 : Tok} {e : Flt} (h : t.1 = 1) (hw : wix t.2.2.2.1 = 16) (hm : ¬ (20 ≤ o ∨ 8 ≤ (d : Int))) (h1 : t1 = T t.2.2.2.2) (ho : o1 = o + 1) (hk : SNo T ms (d + 1) o1 t1 e) : SNo T ms d o t e := fun fr hf => by
  refine Gos.st (ss_nt h hw (by rw [hf]; exact hm)) ?_
  rw [← h1, ← ho]
  exact hk (false :: fr) (by rw [List.length_cons, hf])
theorem sgn_r {T : Int → Tok} {t t2 : Tok} {c : Int} (h : sgn T t c = .inr t2) : t.1 = 3 ∧ t.2.2.1 = c ∧ t2 = T t.2.2.2.2 := by
  unfold sgn at h
  by_cases q : t.1 = 3 ∧ t.2.2.1 = c
  · rw [if_pos q] at h
    exact ⟨q.1, q.2, (Sum.inr.inj h).symm⟩
  · rw [if_neg q] at h
    cases h
theorem sgn_l {T : Int → Tok} {t : Tok} {c : Int} {e : Flt} (h : sgn T t c = .inl e) : ¬ (t.1 = 3 ∧ t.2.2.1 = c) ∧ e = (1, t.2.1) := by
  unfold sgn at h
  by_cases q : t.1 = 3 ∧ t.2.2.1 = c
  · rw [if_pos q] at h
    cases h
  · rw [if_neg q] at h
    exact ⟨q, (Sum.inl.inj h).symm⟩
theorem so_br {T : Int → Tok} {ms : List Int} {d : Nat} {o o1 o2 : Int} {t t1 t2 t3 : Tok} (h : t.1 = 3) (hv : t.2.2.1 = 40) (hm : ¬ (20 ≤ o ∨ 8 ≤ (d : Int))) (h1 : t1 = T t.2.2.2.2) (ho : o1 = o + 1) (hk : SOa T ms (d + 1) o1 t1 o2 t2) (hs : sgn T t2 41 = .inr t3) : SOk T ms d o t o2 t3 := fun fr hf r g => by
  obtain ⟨a1, a2, a3⟩ := sgn_r hs
  refine Gos.st (ss_op h hv (by rw [hf]; exact hm)) ?_
  rw [← h1, ← ho]
  refine hk (true :: fr) (by rw [List.length_cons, hf]) dN_t r ?_
  refine Gos.st (ss_cl (fr := true :: fr) a1 a2 (fun z => nomatch z)) ?_
  rw [← a3]
  exact g
theorem so_brF {T : Int → Tok} {ms : List Int} {d : Nat} {o o1 : Int} {t t1 : Tok} {e : Flt} (h : t.1 = 3) (hv : t.2.2.1 = 40) (hm : ¬ (20 ≤ o ∨ 8 ≤ (d : Int))) (h1 : t1 = T t.2.2.2.2) (ho : o1 = o + 1) (hk : SNa T ms (d + 1) o1 t1 e) : SNo T ms d o t e := fun fr hf => by
  refine Gos.st (ss_op h hv (by rw [hf]; exact hm)) ?_
  rw [← h1, ← ho]
  exact hk (true :: fr) (by rw [List.length_cons, hf]) dN_t
theorem so_brG {T : Int → Tok} {ms : List Int} {d : Nat} {o o1 o2 : Int} {t t1 t2 : Tok} {e : Flt} (h : t.1 = 3) (hv : t.2.2.1 = 40) (hm : ¬ (20 ≤ o ∨ 8 ≤ (d : Int))) (h1 : t1 = T t.2.2.2.2) (ho : o1 = o + 1) (hk : SOa T ms (d + 1) o1 t1 o2 t2) (hj : ¬ sJn t2) (hs : sgn T t2 41 = .inl e) : SNo T ms d o t e := fun fr hf => by
  obtain ⟨a1, a2⟩ := sgn_l hs
  refine Gos.st (ss_op h hv (by rw [hf]; exact hm)) ?_
  rw [← h1, ← ho]
  refine hk (true :: fr) (by rw [List.length_cons, hf]) dN_t _ ?_
  rw [a2]
  by_cases h0 : t2.1 = 0
  · exact Gos.en (ss_enF h0 (fun z => nomatch z))
  · exact Gos.en (ss_no h0 hj (fun q => a1 ⟨q.1, q.2.1⟩))
theorem SOk.a {T : Int → Tok} {ms : List Int} {d : Nat} {o o2 : Int} {t t2 : Tok} (h : SOk T ms d o t o2 t2) : SOa T ms d o t o2 t2 := fun fr hf _ r g => h fr hf r g
theorem SNo.a {T : Int → Tok} {ms : List Int} {d : Nat} {o : Int} {t : Tok} {e : Flt} (h : SNo T ms d o t e) : SNa T ms d o t e := fun fr hf _ => h fr hf
theorem sa_j {T : Int → Tok} {ms : List Int} {d : Nat} {o o1 o3 : Int} {t t1 t2 t3 : Tok} (h : SOa T ms d o t o1 t1) (hj : sJn t1) (h2 : t2 = T t1.2.2.2.2) (hk : SOa T ms d o1 t2 o3 t3) : SOa T ms d o t o3 t3 := fun fr hf hd r g => by
  refine h fr hf hd r (Gos.st (ss_jn hj) ?_)
  rw [← h2, hd]
  exact hk fr hf hd r g
theorem sa_jF {T : Int → Tok} {ms : List Int} {d : Nat} {o o1 : Int} {t t1 t2 : Tok} {e : Flt} (h : SOa T ms d o t o1 t1) (hj : sJn t1) (h2 : t2 = T t1.2.2.2.2) (hk : SNa T ms d o1 t2 e) : SNa T ms d o t e := fun fr hf hd => by
  refine h fr hf hd _ (Gos.st (ss_jn hj) ?_)
  rw [← h2, hd]
  exact hk fr hf hd
theorem sa_end {T : Int → Tok} {ms : List Int} {o o1 : Int} {t t1 : Tok} (h : SOa T ms 0 o t o1 t1) (h0 : t1.1 = 0) : Gos T ms ([], 0, o, t) (.inr o1) := h [] rfl rfl _ (Gos.en (ss_end h0 rfl))
theorem sa_bad {T : Int → Tok} {ms : List Int} {o o1 : Int} {t t1 : Tok} {e : Flt} (h : SOa T ms 0 o t o1 t1) (h0 : t1.1 ≠ 0) (hj : ¬ sJn t1) (he : e = (1, t1.2.1)) : SNa T ms 0 o t e := fun fr hf hd => by
  have e0 : fr = [] := List.length_eq_zero_iff.mp hf
  rw [e0] at hd ⊢
  rw [he]
  exact h [] rfl rfl _ (Gos.en (ss_no h0 hj (fun q => q.2.2 rfl)))
theorem sa_no {T : Int → Tok} {ms : List Int} {o : Int} {t : Tok} {e : Flt} (h : SNa T ms 0 o t e) : Gos T ms ([], 0, o, t) (.inl e) := h [] rfl rfl
/-- a ONE's rest -/
theorem sl_0 {T : Int → Tok} {ms : List Int} {w : Int} {t : Tok} (h : w < 18) : sLf T ms w t = .inr t := by
  unfold sLf
  rw [if_neg (by omega), if_neg (by omega)]
theorem sl_a {T : Int → Tok} {ms : List Int} {w m : Int} {t t2 : Tok} (h : w = 18) (hn : nmx T t ms [] = .inr (m, t2)) : sLf T ms w t = .inr t2 := by
  unfold sLf
  rw [if_pos h, bnd_r hn]
theorem sl_aF {T : Int → Tok} {ms : List Int} {w : Int} {t : Tok} {e : Flt} (h : w = 18) (hn : nmx T t ms [] = .inl e) : sLf T ms w t = .inl e := by
  unfold sLf
  rw [if_pos h, bnd_l hn]
theorem sl_c {T : Int → Tok} {ms : List Int} {w : Int} {t t1 : Tok} {x : Sum Flt Tok} (h : 19 ≤ w) (hs : t.1 = 3 ∧ 60 ≤ t.2.2.1 ∧ t.2.2.1 ≤ 62) (h1 : t1 = T t.2.2.2.2) (hn : num T t1 0 999 = x) : sLf T ms w t = x := by
  unfold sLf
  rw [if_neg (by omega), if_pos h, if_pos hs, ← h1, hn]
theorem sl_cF {T : Int → Tok} {ms : List Int} {w : Int} {t : Tok} {e : Flt} (h : 19 ≤ w) (hs : ¬ (t.1 = 3 ∧ 60 ≤ t.2.2.1 ∧ t.2.2.1 ≤ 62)) (he : e = (1, t.2.1)) : sLf T ms w t = .inl e := by
  unfold sLf
  rw [if_neg (by omega), if_pos h, if_neg hs, he]
def sAns (x : Sum Flt Int) : Int :=
  match x with
  | .inl e => -1 - e.2
  | .inr n => n
/-! the reference's pile: 20 a not, 21 and, 22 or, 23 a bracket -/
def abF (f : Nat → Int32) : Nat → List Bool
  | 0 => []
  | n + 1 => if (f n).toInt = 20 then false :: abF f n else if (f n).toInt = 23 then true :: abF f n else abF f n
def SKB (f : Nat → Int32) (t dp : Int) : Prop := 0 ≤ t ∧ dp = 1 + ((abF f t.toNat).length : Int) ∧ (∀ i : Nat, (i : Int) < t → 20 ≤ (f i).toInt ∧ (f i).toInt ≤ 23) ∧ (∀ i : Nat, (i : Int) + 1 < t → (f (i + 1)).toInt = 21 ∨ (f (i + 1)).toInt = 22 → (f i).toInt ≠ 20)
theorem abF_eq {f g : Nat → Int32} : ∀ n : Nat, (∀ i : Nat, i < n → g i = f i) → abF g n = abF f n := by
  intro n
  induction n with
  | zero => intro _; exact rfl
  | succ n ih =>
    intro h
    show (if (g n).toInt = 20 then false :: abF g n else if (g n).toInt = 23 then true :: abF g n else abF g n) = (if (f n).toInt = 20 then false :: abF f n else if (f n).toInt = 23 then true :: abF f n else abF f n)
    rw [ih (fun i hi => h i (by omega)), h n (by omega)]
theorem abF_20 {f : Nat → Int32} {n : Nat} (h : (f n).toInt = 20) : abF f (n + 1) = false :: abF f n := if_pos h
theorem abF_23 {f : Nat → Int32} {n : Nat} (h : (f n).toInt = 23) : abF f (n + 1) = true :: abF f n := by
  show (if (f n).toInt = 20 then _ else if (f n).toInt = 23 then _ else _) = _
  rw [if_neg (by omega), if_pos h]
theorem abF_j {f : Nat → Int32} {n : Nat} (h : (f n).toInt = 21 ∨ (f n).toInt = 22) : abF f (n + 1) = abF f n := by
  show (if (f n).toInt = 20 then _ else if (f n).toInt = 23 then _ else _) = _
  rw [if_neg (by omega), if_neg (by omega)]
theorem abF_le {f : Nat → Int32} : ∀ n : Nat, (abF f n).length ≤ n := by
  intro n
  induction n with
  | zero => exact Nat.le_refl _
  | succ n ih =>
    show (if (f n).toInt = 20 then false :: abF f n else if (f n).toInt = 23 then true :: abF f n else abF f n).length ≤ n + 1
    split
    · rw [List.length_cons]; omega
    · split
      · rw [List.length_cons]; omega
      · omega
theorem SKB.z {f : Nat → Int32} : SKB f 0 1 := ⟨Int.le_refl _, rfl, fun i hi => absurd hi (by omega), fun i hi => absurd hi (by omega)⟩
theorem SKB.dp {f : Nat → Int32} {t dp : Int} (h : SKB f t dp) : 1 ≤ dp ∧ dp ≤ 1 + t := by
  have h1 := abF_le (f := f) t.toNat
  have h2 := h.1
  have h3 := h.2.1
  omega
/-- no not is on top: no not is ahead of the next bracket -/
theorem dN_ab {f : Nat → Int32} : ∀ n : Nat, (∀ i : Nat, i < n → 20 ≤ (f i).toInt ∧ (f i).toInt ≤ 23) → (∀ i : Nat, i + 1 < n → (f (i + 1)).toInt = 21 ∨ (f (i + 1)).toInt = 22 → (f i).toInt ≠ 20) → (∀ i : Nat, i + 1 = n → (f i).toInt ≠ 20) → dN (abF f n) = abF f n := by
  intro n
  induction n with
  | zero => intro _ _ _; exact rfl
  | succ n ih =>
    intro hv h h0
    have h1 := h0 n rfl
    have h4 := hv n (by omega)
    by_cases h2 : (f n).toInt = 23
    · rw [abF_23 h2]
      exact dN_t
    · have h3 : (f n).toInt = 21 ∨ (f n).toInt = 22 := by omega
      rw [abF_j h3]
      refine ih (fun i hi => hv i (by omega)) (fun i hi q => h i (by omega) q) (fun i hi => h i (by omega) ?_)
      rw [hi]
      exact h3
/-- the top is no not -/
def TNN (f : Nat → Int32) (t : Int) : Prop := ∀ i : Nat, (i : Int) + 1 = t → (f i).toInt ≠ 20
theorem SKB.dN {f : Nat → Int32} {t dp : Int} (h : SKB f t dp) (h0 : TNN f t) : dN (abF f t.toNat) = abF f t.toNat := by
  have ht := h.1
  exact dN_ab t.toNat (fun i hi => h.2.2.1 i (by omega)) (fun i hi q => h.2.2.2 i (by omega) q) (fun i hi => h0 i (by omega))
/-- a not is taken off -/
theorem SKB.nt {f : Nat → Int32} {t dp t' dp' : Int} {v ix : Int32} (h : SKB f t dp) (e : v = f ix.toNatClampNeg) (hix : ix.toInt = t - 1) (h1 : 1 ≤ t) (hv : v.toInt = 20) (et : t' = t - 1) (ed : dp' = dp - 1) : SKB f t' dp' ∧ abF f t.toNat = false :: abF f t'.toNat := by
  obtain ⟨a, b, c, d⟩ := h
  rw [cl_nat] at e
  have en : t.toNat = t'.toNat + 1 := by omega
  have ei : ix.toInt.toNat = t'.toNat := by omega
  have e2 : abF f t.toNat = false :: abF f t'.toNat := by
    rw [en]
    exact abF_20 (by rw [← ei, ← e]; exact hv)
  rw [e2, List.length_cons] at b
  exact ⟨⟨by omega, by omega, fun i hi => c i (by omega), fun i hi q => d i (by omega) q⟩, e2⟩
/-- what joins is taken off -/
theorem SKB.jn {f : Nat → Int32} {t dp t' dp' : Int} {v ix : Int32} (h : SKB f t dp) (e : v = f ix.toNatClampNeg) (hix : ix.toInt = t - 1) (h1 : 1 ≤ t) (hv : v.toInt = 21 ∨ v.toInt = 22) (et : t' = t - 1) (ed : dp' = dp) : SKB f t' dp' ∧ abF f t.toNat = abF f t'.toNat ∧ TNN f t' := by
  obtain ⟨a, b, c, d⟩ := h
  rw [cl_nat] at e
  have en : t.toNat = t'.toNat + 1 := by omega
  have ei : ix.toInt.toNat = t'.toNat := by omega
  have hv2 : (f t'.toNat).toInt = 21 ∨ (f t'.toNat).toInt = 22 := by rw [← ei, ← e]; exact hv
  have e2 : abF f t.toNat = abF f t'.toNat := by
    rw [en]
    exact abF_j hv2
  rw [e2] at b
  refine ⟨⟨by omega, by omega, fun i hi => c i (by omega), fun i hi q => d i (by omega) q⟩, e2, fun i hi => d i (by omega) ?_⟩
  rw [show i + 1 = t'.toNat by omega]
  exact hv2
/-- a bracket is taken off -/
theorem SKB.br {f : Nat → Int32} {t dp t' dp' : Int} (h : SKB f t dp) (h0 : TNN f t) (hj : ∀ i : Nat, (i : Int) + 1 = t → (f i).toInt ≠ 21 ∧ (f i).toInt ≠ 22) (h1 : 1 ≤ t) (et : t' = t - 1) (ed : dp' = dp - 1) : SKB f t' dp' ∧ abF f t.toNat = true :: abF f t'.toNat := by
  obtain ⟨a, b, c, d⟩ := h
  have en : t.toNat = t'.toNat + 1 := by omega
  have q0 := h0 t'.toNat (by omega)
  have q1 := hj t'.toNat (by omega)
  have q2 := c t'.toNat (by omega)
  have e2 : abF f t.toNat = true :: abF f t'.toNat := by
    rw [en]
    exact abF_23 (by omega)
  rw [e2, List.length_cons] at b
  exact ⟨⟨by omega, by omega, fun i hi => c i (by omega), fun i hi q => d i (by omega) q⟩, e2⟩
theorem abF_up {f g : Nat → Int32} {x ix : Int32} {t : Int} (e : upd f ix.toNatClampNeg x = g) (hix : ix.toInt = t) (h0 : 0 ≤ t) : abF g t.toNat = abF f t.toNat ∧ g t.toNat = x ∧ (∀ i : Nat, (i : Int) < t → g i = f i) := by
  have ei : ix.toNatClampNeg = t.toNat := by rw [cl_nat, hix]
  rw [ei] at e
  refine ⟨abF_eq _ (fun i hi => by rw [← e, pk_un (by omega)]), by rw [← e, pk_us], fun i hi => by rw [← e, pk_un (by omega)]⟩
/-- a not, a bracket comes on top -/
theorem SKB.p20 {f g : Nat → Int32} {x ix : Int32} {t dp t' dp' : Int} (h : SKB f t dp) (e : upd f ix.toNatClampNeg x = g) (hix : ix.toInt = t) (hx : x.toInt = 20) (et : t' = t + 1) (ed : dp' = dp + 1) : SKB g t' dp' ∧ abF g t'.toNat = false :: abF f t.toNat := by
  obtain ⟨a, b, c, d⟩ := h
  obtain ⟨u1, u2, u3⟩ := abF_up e hix a
  have en : t'.toNat = t.toNat + 1 := by omega
  have e2 : abF g t'.toNat = false :: abF f t.toNat := by
    rw [en, abF_20 (by rw [u2]; exact hx), u1]
  refine ⟨⟨by omega, by rw [e2, List.length_cons]; omega, fun i hi => ?_, fun i hi q => ?_⟩, e2⟩
  · by_cases z : (i : Int) < t
    · rw [u3 i z]
      exact c i z
    · rw [show i = t.toNat by omega, u2]
      omega
  · by_cases z : (i : Int) + 1 < t
    · rw [u3 i (by omega)]
      rw [u3 (i + 1) (by omega)] at q
      exact d i z q
    · rw [show i + 1 = t.toNat by omega, u2] at q
      omega
theorem SKB.p23 {f g : Nat → Int32} {x ix : Int32} {t dp t' dp' : Int} (h : SKB f t dp) (e : upd f ix.toNatClampNeg x = g) (hix : ix.toInt = t) (hx : x.toInt = 23) (et : t' = t + 1) (ed : dp' = dp + 1) : SKB g t' dp' ∧ abF g t'.toNat = true :: abF f t.toNat := by
  obtain ⟨a, b, c, d⟩ := h
  obtain ⟨u1, u2, u3⟩ := abF_up e hix a
  have en : t'.toNat = t.toNat + 1 := by omega
  have e2 : abF g t'.toNat = true :: abF f t.toNat := by
    rw [en, abF_23 (by rw [u2]; exact hx), u1]
  refine ⟨⟨by omega, by rw [e2, List.length_cons]; omega, fun i hi => ?_, fun i hi q => ?_⟩, e2⟩
  · by_cases z : (i : Int) < t
    · rw [u3 i z]
      exact c i z
    · rw [show i = t.toNat by omega, u2]
      omega
  · by_cases z : (i : Int) + 1 < t
    · rw [u3 i (by omega)]
      rw [u3 (i + 1) (by omega)] at q
      exact d i z q
    · rw [show i + 1 = t.toNat by omega, u2] at q
      omega
/-- what joins comes on top -/
theorem SKB.pj {f g : Nat → Int32} {x ix : Int32} {t dp t' dp' : Int} (h : SKB f t dp) (h0 : TNN f t) (e : upd f ix.toNatClampNeg x = g) (hix : ix.toInt = t) (hx : x.toInt = 21 ∨ x.toInt = 22) (et : t' = t + 1) (ed : dp' = dp) : SKB g t' dp' ∧ abF g t'.toNat = abF f t.toNat := by
  obtain ⟨a, b, c, d⟩ := h
  obtain ⟨u1, u2, u3⟩ := abF_up e hix a
  have en : t'.toNat = t.toNat + 1 := by omega
  have e2 : abF g t'.toNat = abF f t.toNat := by
    rw [en, abF_j (by rw [u2]; exact hx), u1]
  refine ⟨⟨by omega, by rw [e2]; omega, fun i hi => ?_, fun i hi q => ?_⟩, e2⟩
  · by_cases z : (i : Int) < t
    · rw [u3 i z]
      exact c i z
    · rw [show i = t.toNat by omega, u2]
      omega
  · by_cases z : (i : Int) + 1 < t
    · rw [u3 i (by omega)]
      rw [u3 (i + 1) (by omega)] at q
      exact d i z q
    · rw [u3 i (by omega)]
      exact h0 i (by omega)
/-! what the class's texts name -/
theorem tkC_sgn {k a v p : Int32} {nm : Int64} (h : 4 ≤ k.toInt) : (tkC k a v nm p).1 = 3 ∧ (tkC k a v nm p).2.2.1 = k.toInt ∧ (tkC k a v nm p).2.2.2.2 = p.toInt := by
  rw [tkC_s (by omega) (by omega) (by omega) (by omega)]
  exact ⟨rfl, rfl, rfl⟩
theorem tkC_sgn3 {k a v p : Int32} {nm : Int64} (h : (tkC k a v nm p).1 = 3) : k.toInt ≠ 0 ∧ k.toInt ≠ 1 ∧ k.toInt ≠ 2 ∧ k.toInt ≠ 3 ∧ (tkC k a v nm p).2.2.1 = k.toInt := by
  by_cases h0 : k.toInt = 0
  · rw [tkC_0 h0] at h
    exact absurd (show (0 : Int) = 3 from h) (by decide)
  · by_cases h1 : k.toInt = 1
    · rw [tkC_1 h1] at h
      exact absurd (show (4 : Int) = 3 from h) (by decide)
    · by_cases h2 : k.toInt = 2
      · rw [tkC_2 h2] at h
        exact absurd (show (1 : Int) = 3 from h) (by decide)
      · by_cases h3 : k.toInt = 3
        · rw [tkC_3 h3] at h
          exact absurd (show (2 : Int) = 3 from h) (by decide)
        · refine ⟨h0, h1, h2, h3, ?_⟩
          rw [tkC_s h0 h1 h2 h3]
theorem sbC_n {k a v p : Int32} {nm : Int64} (hk : k.toInt ≠ 40) (hw : k.toInt = 2 → v.toInt = wix nm.toInt) (h : k.toInt = 2 → ¬ (v.toInt = 8 ∨ 16 ≤ v.toInt)) : ¬ sBeg (tkC k a v nm p) := by
  intro q
  rcases q with ⟨q1, q2⟩ | ⟨q1, q2⟩
  · have := tkC_sgn3 q1
    omega
  · have k2 := tkC_1n q1
    rw [tkC_nm k2, ← hw k2] at q2
    exact h k2 q2
theorem sbC_o {k a v p : Int32} {nm : Int64} (hk : k.toInt = 40) : sBeg (tkC k a v nm p) := Or.inl ⟨(tkC_sgn (by omega)).1, by rw [(tkC_sgn (by omega)).2.1, hk]⟩
theorem sbC_w {k a v p : Int32} {nm : Int64} (hk : k.toInt = 2) (hw : k.toInt = 2 → v.toInt = wix nm.toInt) (h : v.toInt = 8 ∨ 16 ≤ v.toInt) : sBeg (tkC k a v nm p) := Or.inr ⟨tkC_1st hk, by rw [tkC_nm hk, ← hw hk]; exact h⟩
theorem sjC {k a v p : Int32} {nm : Int64} (hk : k.toInt = 2) (hw : k.toInt = 2 → v.toInt = wix nm.toInt) (h : v.toInt = 14 ∨ v.toInt = 15) : sJn (tkC k a v nm p) := ⟨tkC_1st hk, by rw [tkC_nm hk, ← hw hk]; exact h⟩
theorem sjC_n {k a v p : Int32} {nm : Int64} (hw : k.toInt = 2 → v.toInt = wix nm.toInt) (h : ¬ (k.toInt = 2 ∧ (v.toInt = 14 ∨ v.toInt = 15))) : ¬ sJn (tkC k a v nm p) := by
  intro q
  have k2 := tkC_1n q.1
  have q2 := q.2
  rw [tkC_nm k2, ← hw k2] at q2
  exact h ⟨k2, q2⟩
theorem fl_e {k a v p fk fp : Int32} {nm : Int64} {c : Int} (h1 : fk.toInt = c) (h2 : fp.toInt = a.toInt) : (fk.toInt, fp.toInt) = (c, (tkC k a v nm p).2.1) := by rw [tkC_pl, h1, h2]
theorem at_ts {T : Int → Tok} {k a v p : Int32} {nm : Int64} {t1 : Tok} (h : t1 = T p.toInt) (hk : 4 ≤ k.toInt) : t1 = T (tkC k a v nm p).2.2.2.2 := by
  rw [(tkC_sgn hk).2.2]
  exact h
theorem tkC_cmp {k a v p : Int32} {nm : Int64} (h : 60 ≤ k.toInt ∧ k.toInt ≤ 62) : (tkC k a v nm p).1 = 3 ∧ 60 ≤ (tkC k a v nm p).2.2.1 ∧ (tkC k a v nm p).2.2.1 ≤ 62 := by
  have q := tkC_sgn (k := k) (a := a) (v := v) (p := p) (nm := nm) (by omega)
  exact ⟨q.1, by rw [q.2.1]; exact h.1, by rw [q.2.1]; exact h.2⟩
theorem tkC_cmpn {k a v p : Int32} {nm : Int64} (h : ¬ (60 ≤ k.toInt ∧ k.toInt ≤ 62)) : ¬ ((tkC k a v nm p).1 = 3 ∧ 60 ≤ (tkC k a v nm p).2.2.1 ∧ (tkC k a v nm p).2.2.1 ≤ 62) := by
  intro q
  have q2 := (tkC_sgn3 q.1).2.2.2.2
  have q3 := q.2
  rw [q2] at q3
  exact h q3
/-! what the reference's texts name -/
def SKN (f : Nat → Int32) (t dp t0 : Int) : Prop := SKB f t dp ∧ dN (abF f t.toNat) = dN (abF f t0.toNat)
theorem SKN.z {f : Nat → Int32} {t dp : Int} (h : SKB f t dp) : SKN f t dp t := ⟨h, rfl⟩
theorem SKN.step {f : Nat → Int32} {t dp t0 t' dp' : Int} {v ix : Int32} (h : SKN f t dp t0) (e : v = f ix.toNatClampNeg) (hix : ix.toInt = t - 1) (h1 : 1 ≤ t) (hv : v.toInt = 20) (et : t' = t - 1) (ed : dp' = dp - 1) : SKN f t' dp' t0 := by
  obtain ⟨a, b⟩ := SKB.nt h.1 e hix h1 hv et ed
  refine ⟨a, ?_⟩
  rw [← h.2, b]
  exact dN_f.symm
theorem TNN.no {f : Nat → Int32} {t : Int} (h : t ≤ 0) : TNN f t := fun i hi => absurd hi (by omega)
theorem TNN.at {f : Nat → Int32} {t : Int} {v ix : Int32} (e : v = f ix.toNatClampNeg) (hix : ix.toInt = t - 1) (hv : v.toInt ≠ 20) : TNN f t := fun i hi => by
  rw [cl_nat] at e
  rw [show i = ix.toInt.toNat by omega, ← e]
  exact hv
def SKJ (f : Nat → Int32) (t dp t0 : Int) : Prop := SKB f t dp ∧ abF f t.toNat = abF f t0.toNat ∧ TNN f t
theorem SKJ.z {f : Nat → Int32} {t dp : Int} (h : SKB f t dp) (h0 : TNN f t) : SKJ f t dp t := ⟨h, rfl, h0⟩
theorem SKJ.step {f : Nat → Int32} {t dp t0 t' : Int} {v ix : Int32} (h : SKJ f t dp t0) (e : v = f ix.toNatClampNeg) (hix : ix.toInt = t - 1) (h1 : 1 ≤ t) (hv : v.toInt = 21 ∨ v.toInt = 22) (et : t' = t - 1) : SKJ f t' dp t0 := by
  obtain ⟨a, b, c⟩ := SKB.jn h.1 e hix h1 hv et rfl
  exact ⟨a, by rw [← b]; exact h.2.1, c⟩
def JT2 (f : Nat → Int32) (t : Int) (k : Int) : Prop := k = 22 → ∀ i : Nat, (i : Int) + 1 = t → (f i).toInt ≠ 21 ∧ (f i).toInt ≠ 22
theorem JT2.no {f : Nat → Int32} {t k : Int} (h : t ≤ 0) : JT2 f t k := fun _ i hi => absurd hi (by omega)
theorem JT2.ne {f : Nat → Int32} {t k : Int} (h : k ≠ 22) : JT2 f t k := fun q => absurd q h
theorem JT2.at {f : Nat → Int32} {t k : Int} {v ix : Int32} (e : v = f ix.toNatClampNeg) (hix : ix.toInt = t - 1) (h1 : v.toInt ≠ 21) (h2 : v.toInt ≠ 22) : JT2 f t k := fun _ i hi => by
  rw [cl_nat] at e
  rw [show i = ix.toInt.toNat by omega, ← e]
  exact ⟨h1, h2⟩
/-- nots, then what joins, are taken off -/
theorem nj_d {f : Nat → Int32} {t0 t1 t2 d1 : Int} (a : SKN f t1 d1 t0) (b : TNN f t1) (c : SKJ f t2 d1 t1) : dN (abF f t0.toNat) = abF f t2.toNat := by
  rw [← a.2, SKB.dN a.1 b, c.2.1]
theorem nj_0 {f : Nat → Int32} {t0 t1 t2 d1 : Int} (a : SKN f t1 d1 t0) (b : TNN f t1) (c : SKJ f t2 d1 t1) (h : t2 ≤ 0) : dN (abF f t0.toNat) = [] := by
  rw [nj_d a b c, show t2.toNat = 0 by omega]
  exact rfl
theorem nj_1 {f : Nat → Int32} {t0 t1 t2 d1 : Int} (a : SKN f t1 d1 t0) (b : TNN f t1) (c : SKJ f t2 d1 t1) (j : JT2 f t2 22) (h : 1 ≤ t2) : dN (abF f t0.toNat) ≠ [] := by
  rw [nj_d a b c, (SKB.br c.1 c.2.2 (j rfl) h rfl rfl).2]
  exact fun q => nomatch q
/-- the reference's steps -/
theorem gq_nt {T : Int → Tok} {ms : List Int} {fr fr' : List Bool} {o o' wh' : Int} {t t1 : Tok} {r : Sum Flt Int} (h : t.1 = 1) (hw : wix t.2.2.2.1 = 16) (hm : ¬ (20 ≤ o ∨ 8 ≤ (fr.length : Int))) (h1 : t1 = T t.2.2.2.2) (ea : fr' = false :: fr) (eo : o' = o + 1) (ew : wh' = 0) (g : Gos T ms (fr', wh', o', t1) r) : Gos T ms (fr, 0, o, t) r := by
  refine Gos.st (ss_nt h hw hm) ?_
  rw [← h1, ← eo, ← ea, ← ew]
  exact g
theorem gq_op {T : Int → Tok} {ms : List Int} {fr fr' : List Bool} {o o' wh' : Int} {t t1 : Tok} {r : Sum Flt Int} (h : t.1 = 3) (hv : t.2.2.1 = 40) (hm : ¬ (20 ≤ o ∨ 8 ≤ (fr.length : Int))) (h1 : t1 = T t.2.2.2.2) (ea : fr' = true :: fr) (eo : o' = o + 1) (ew : wh' = 0) (g : Gos T ms (fr', wh', o', t1) r) : Gos T ms (fr, 0, o, t) r := by
  refine Gos.st (ss_op h hv hm) ?_
  rw [← h1, ← eo, ← ea, ← ew]
  exact g
theorem gq_lf {T : Int → Tok} {ms : List Int} {fr : List Bool} {o o' wh' : Int} {t t1 t2 : Tok} {r : Sum Flt Int} (h : t.1 = 1) (hw : wix t.2.2.2.1 = 8 ∨ 17 ≤ wix t.2.2.2.1) (hm : ¬ (20 ≤ o ∨ 8 ≤ (fr.length : Int))) (h1 : t1 = T t.2.2.2.2) (hl : sLf T ms (wix t.2.2.2.1) t1 = .inr t2) (eo : o' = o + 1) (ew : wh' = 1) (g : Gos T ms (fr, wh', o', t2) r) : Gos T ms (fr, 0, o, t) r := by
  refine so_lf h hw hm h1 hl eo fr rfl r ?_
  rw [← ew]
  exact g
theorem gq_lfF {T : Int → Tok} {ms : List Int} {fr : List Bool} {o : Int} {t t1 : Tok} {e : Flt} (h : t.1 = 1) (hw : wix t.2.2.2.1 = 8 ∨ 17 ≤ wix t.2.2.2.1) (hm : ¬ (20 ≤ o ∨ 8 ≤ (fr.length : Int))) (h1 : t1 = T t.2.2.2.2) (hl : sLf T ms (wix t.2.2.2.1) t1 = .inl e) : Gos T ms (fr, 0, o, t) (.inl e) := so_lfF h hw hm h1 hl fr rfl
theorem gq_1 {T : Int → Tok} {ms : List Int} {fr : List Bool} {o : Int} {t : Tok} {e : Flt} (h : ¬ sBeg t) (he : e = (1, t.2.1)) : Gos T ms (fr, 0, o, t) (.inl e) := by
  rw [he]
  exact Gos.en (ss_bg h)
theorem gq_4 {T : Int → Tok} {ms : List Int} {fr : List Bool} {o : Int} {t : Tok} {e : Flt} (h : sBeg t) (hm : 20 ≤ o ∨ 8 ≤ (fr.length : Int)) (he : e = (4, t.2.1)) : Gos T ms (fr, 0, o, t) (.inl e) := by
  rw [he]
  exact Gos.en (ss_mn h hm)
theorem gq_jn {T : Int → Tok} {ms : List Int} {fr fr' : List Bool} {o o' wh' : Int} {t t1 : Tok} {r : Sum Flt Int} (h : sJn t) (h1 : t1 = T t.2.2.2.2) (ea : fr' = dN fr) (eo : o' = o) (ew : wh' = 0) (g : Gos T ms (fr', wh', o', t1) r) : Gos T ms (fr, 1, o, t) r := by
  refine Gos.st (ss_jn h) ?_
  rw [← h1, ← eo, ← ea, ← ew]
  exact g
theorem gq_cl {T : Int → Tok} {ms : List Int} {fr fr' : List Bool} {o o' wh' : Int} {t t1 : Tok} {r : Sum Flt Int} (h : t.1 = 3) (hv : t.2.2.1 = 41) (h1 : t1 = T t.2.2.2.2) (ea : dN fr = true :: fr') (eo : o' = o) (ew : wh' = 1) (g : Gos T ms (fr', wh', o', t1) r) : Gos T ms (fr, 1, o, t) r := by
  refine Gos.st (ss_cl h hv (by rw [ea]; exact fun q => nomatch q)) ?_
  rw [ea, ← h1]
  rw [eo, ew] at g
  exact g
theorem gq_no {T : Int → Tok} {ms : List Int} {fr : List Bool} {o : Int} {t : Tok} {e : Flt} (h0 : t.1 ≠ 0) (hj : ¬ sJn t) (h : ¬ (t.1 = 3 ∧ t.2.2.1 = 41 ∧ dN fr ≠ [])) (he : e = (1, t.2.1)) : Gos T ms (fr, 1, o, t) (.inl e) := by
  rw [he]
  exact Gos.en (ss_no h0 hj h)
theorem gq_en {T : Int → Tok} {ms : List Int} {fr : List Bool} {o : Int} {t : Tok} (h : t.1 = 0) (hd : dN fr = []) : Gos T ms (fr, 1, o, t) (.inr o) := Gos.en (ss_end h hd)
theorem gq_eF {T : Int → Tok} {ms : List Int} {fr : List Bool} {o : Int} {t : Tok} {e : Flt} (h : t.1 = 0) (hd : dN fr ≠ []) (he : e = (1, t.2.1)) : Gos T ms (fr, 1, o, t) (.inl e) := by
  rw [he]
  exact Gos.en (ss_enF h hd)
theorem sbM_n {t a nu p : Int32} {w : Int64} (h1 : ¬ (t.toInt = 3 ∧ nu.toInt = 40)) (h2 : t.toInt = 1 → ¬ (wix (g27 w.toInt) = 8 ∨ 16 ≤ wix (g27 w.toInt))) : ¬ sBeg (tkM t a nu w p) := by
  intro q
  rcases q with ⟨q1, q2⟩ | ⟨q1, q2⟩
  · have k : t.toInt = 3 := q1
    rw [tkM_3 k] at q2
    exact h1 ⟨k, q2⟩
  · have k : t.toInt = 1 := q1
    rw [tkM_w k] at q2
    exact h2 k q2
theorem sbM_o {t a nu p : Int32} {w : Int64} (h : t.toInt = 3 ∧ nu.toInt = 40) : sBeg (tkM t a nu w p) := Or.inl ⟨h.1, by rw [tkM_3 h.1]; exact h.2⟩
theorem sbM_w {t a nu p : Int32} {w : Int64} (h : t.toInt = 1) (h2 : wix (g27 w.toInt) = 8 ∨ 16 ≤ wix (g27 w.toInt)) : sBeg (tkM t a nu w p) := Or.inr ⟨h, by rw [tkM_w h]; exact h2⟩
theorem sjM {t a nu p : Int32} {w : Int64} (h : t.toInt = 1) (h2 : wix (g27 w.toInt) = 14 ∨ wix (g27 w.toInt) = 15) : sJn (tkM t a nu w p) := ⟨h, by rw [tkM_w h]; exact h2⟩
theorem sjM_n {t a nu p : Int32} {w : Int64} (h : t.toInt = 1 → ¬ (wix (g27 w.toInt) = 14 ∨ wix (g27 w.toInt) = 15)) : ¬ sJn (tkM t a nu w p) := by
  intro q
  have k : t.toInt = 1 := q.1
  have q2 := q.2
  rw [tkM_w k] at q2
  exact h k q2
theorem tkM_sgn {t a nu p : Int32} {w : Int64} (h : t.toInt = 3) : (tkM t a nu w p).1 = 3 ∧ (tkM t a nu w p).2.2.1 = nu.toInt ∧ (tkM t a nu w p).2.2.2.2 = p.toInt := by
  rw [tkM_3 h]
  exact ⟨rfl, rfl, rfl⟩
theorem tkM_n41 {t a nu p : Int32} {w : Int64} {P : Prop} (h : ¬ (t.toInt = 3 ∧ nu.toInt = 41 ∧ P)) : ¬ ((tkM t a nu w p).1 = 3 ∧ (tkM t a nu w p).2.2.1 = 41 ∧ P) := by
  intro q
  have k : t.toInt = 3 := q.1
  have q2 := q.2.1
  rw [tkM_3 k] at q2
  exact h ⟨k, q2, q.2.2⟩
theorem atM3 {T : Int → Tok} {t a nu p : Int32} {w : Int64} {t1 : Tok} (h : t1 = T p.toInt) (ht : t.toInt = 3) : t1 = T (tkM t a nu w p).2.2.2.2 := by
  rw [tkM_3 ht]
  exact h
theorem gos_0 {f : Nat → Int32} {n : Int} {ms : List Int} {t : Tok} {r : Sum Flt Int} (h : t = tkA f n 200 0) (g : Gos (tkA f n 200) ms ([], 0, 0, t) r) : Gos (tkA f n 200) ms ([], 0, 0, tkA f n 200 0) r := by
  rw [← h]
  exact g
theorem wix_le (w : Int) : wix w ≤ 22 := by
  rcases wixK_bd (w := w) rw27 0 (Int.le_refl _) with h | h
  · show wixK rw27 0 w ≤ 22
    omega
  · have h2 : wixK rw27 0 w < 0 + (rw27.length : Int) := h.2
    have h3 : (rw27.length : Int) = 23 := by decide
    show wixK rw27 0 w ≤ 22
    omega
theorem gos_w {T : Int → Tok} {ms : List Int} {fr : List Bool} {w w' o : Int} {t : Tok} {r : Sum Flt Int} (h : w' = w) (g : Gos T ms (fr, w, o, t) r) : Gos T ms (fr, w', o, t) r := by
  rw [h]
  exact g
theorem tkM_cmp {t a nu p : Int32} {w : Int64} (h : t.toInt = 3 ∧ 60 ≤ nu.toInt ∧ nu.toInt ≤ 62) : (tkM t a nu w p).1 = 3 ∧ 60 ≤ (tkM t a nu w p).2.2.1 ∧ (tkM t a nu w p).2.2.1 ≤ 62 := by
  have q := tkM_sgn (t := t) (a := a) (nu := nu) (p := p) (w := w) h.1
  exact ⟨q.1, by rw [q.2.1]; exact h.2.1, by rw [q.2.1]; exact h.2.2⟩
theorem tkM_cmpn {t a nu p : Int32} {w : Int64} (h : ¬ (t.toInt = 3 ∧ 60 ≤ nu.toInt ∧ nu.toInt ≤ 62)) : ¬ ((tkM t a nu w p).1 = 3 ∧ 60 ≤ (tkM t a nu w p).2.2.1 ∧ (tkM t a nu w p).2.2.1 ≤ 62) := by
  intro q
  have k : t.toInt = 3 := q.1
  have q2 := q.2
  rw [(tkM_sgn k).2.1] at q2
  exact h ⟨k, q2⟩
theorem sans_l {e : Flt} {r a : Int} (h : r = -1 - a) (he : e.2 = a) : r = sAns (.inl e) := by
  rw [h, ← he]
  exact rfl
