section VCF
variable {y : MD} {w : TG} {g : VG} {kc ks : Nat} {Q : State → Prop} {pc : Nat} {vs : List (Option Value)} {rest : List Value} {es : List va_E}
theorem C_putF {own C : String} {T : u_T} {N ci index o k : Nat} {fs : List Value} {ty : FieldType} {v : Value} (hin2 : (gH g).name = "<init>") (hcl5 : cls5[ci]? = some (C, T, N)) (hin : ∀ t ∈ u_ws C T N, t ∈ gtb) (ty0 : Nat → FieldType) (hty : ∀ k, k < N → parseFieldDescriptor (T k).2.2.1 = some (ty0 k)) (hnm : ∀ a, a < N → ∀ b, b < N → a ≠ b → (T a).2.1 ≠ (T b).2.1) (ho : y.1.cls = own) (he : es[o]? = some (.inr (ci, fs))) (hk : k < N) (hw : Cond.fieldLink own index (T k).1 (T k).2.1 (T k).2.2.1 ∈ gtb) (hfin : (T k).2.2.2 = true) (hdecl : (T k).1 = own) (hpd : parseFieldDescriptor (T k).2.2.1 = some ty) (hn : narrow ty v = v) (hfit : fits ty v = true) (hlen : k < fs.length) (hd : decode y.2.1 pc = .ok (.putfield index, 3))
    (kk : VC y w g kc ks Q (pc + 3) vs rest (es.set o (.inr (ci, fs.set k v)))) : VC y w g kc ks Q pc vs (v :: .ref (wB w + o) :: rest) es := by
  intro ok H locs ls hP hz hS hl'
  subst ho
  have ho : o < es.length := (List.getElem?_eq_some_iff.mp he).1
  have hts := ok.2.2.2.2.1
  have hK := ok.2.2.2.2.2.2.2.1
  have hown := ok.2.2.2.1
  have hap := va_apart (own := y.1.cls) hts hin ty0 hty hnm hK hcl5
  obtain ⟨r, h1, cell, q1, q2, q3, q4⟩ := hP o _ (wse_at he)
  have hr : r = (C, T, N) := Option.some.inj (h1.symm.trans hcl5)
  subst hr
  obtain ⟨hSS, hfc, kC, hkC, hkind⟩ := hK.1 ci _ hcl5
  obtain ⟨cf, kf, fi, f, hi, hsl⟩ := hSS k hk
  have hlay := hts _ (hin _ (u_in_lay hk))
  unfold u_lay at hlay
  rw [if_pos hfin] at hlay
  have hst := (u_facts hfc hkC (u_lays hts hin hk) hi).1
  have hcf : (gM g).cls = cf := by
    obtain ⟨_, _, c', _, _, _, -, -, hf', -, -, -, hown2, -⟩ := Cond.laysFinal_spec hlay
    have e1 : c' = cf := by have := hi.symm.trans hf'; simp at this; exact this.1.symm
    rw [hdecl] at hown2
    rw [← e1]; exact Option.some.inj (hown.symm.trans hown2)
  have h6 := u_fits hfc hkC hkind (Or.inr hlay) hi hpd hn hfit
  refine W.putFinK ok.1 ok.2.1 hown (hts _ hw) hi hst hcf hin2 (by rw [q2]; exact h6) q1 q3 (by rw [hsl]; exact k2_hasslot (q4 k hk)) rfl rfl hd fun H' e1 e2 e3 => ?_
  rw [hsl] at e1 ⊢
  have hP1 := hP.set (wse_D w es) (wse_at he) (e := .inr (ci, fs.set k v)) ⟨_, hcl5, t_OB.to (V := updV (vp_V fs) k v) ⟨_, e1, q2, q3, t_set q4 hap hk v⟩ (fun j _ => vp_updV_set hlen v j)⟩ e3
  rw [wse_set ho] at hP1
  exact kk ok H' _ ls hP1 (by rw [e2, hz, List.length_set]) (hS.put e2 e3 ((wse_D w es).2 o _ (wse_at he))) hl'
end VCF
