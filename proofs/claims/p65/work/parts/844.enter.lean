theorem St_up2 {ad ad' : Nat → Nat} (h : ∀ i, 2000 ≤ i → ad' i = ad i) {A : Nat → Prop} {U : State} {H : Heap} (hS : St ad A U H) : St ad' A U H := by
  have e0 : ∀ i, ad' (2000 + i) = ad (2000 + i) := fun i => h _ (by omega)
  have e1 : ∀ i, ad' (2107 + i) = ad (2107 + i) := fun i => h _ (by omega)
  have e2 : ∀ i, ad' (2200 + i) = ad (2200 + i) := fun i => h _ (by omega)
  have e3 : ∀ i, ad' (2300 + i) = ad (2300 + i) := fun i => h _ (by omega)
  have f0 : adO ad' = adO ad := funext e0
  have f1 : adV ad' = adV ad := funext e1
  have f2 : (fun i => ad' (2200 + i)) = (fun i => ad (2200 + i)) := funext e2
  have f3 : (fun i => ad' (2300 + i)) = (fun i => ad (2300 + i)) := funext e3
  unfold St StE StX StR at *
  rw [f0, f1, f2, f3]
  obtain ⟨hE, hX, hR1, hR2⟩ := hS
  exact ⟨hE, hX, fun q hq => by rw [e2]; exact hR1 q hq, hR2⟩
def Eqv (x y : va_E) : Prop := x = y ∨ ∃ (t : ClassId) (N : Nat) (f g : Nat → Option Nat), x = .inl (t, N, .inr (.inr (.inr (.inr f)))) ∧ y = .inl (t, N, .inr (.inr (.inr (.inr g)))) ∧ ∀ j, j < N → f j = g j
theorem Eqv.rf (x : va_E) : Eqv x x := Or.inl rfl
theorem Eqv.tr {t : ClassId} {N : Nat} {f : Nat → Nat} : Eqv (.inl (t, N, .inr (.inr (.inr (.inr (tr N f)))))) (.inl (t, N, .inr (.inr (.inr (.inr (fun j => some (f j))))))) := Or.inr ⟨t, N, _, _, rfl, rfl, fun j hj => if_pos hj⟩
theorem va_at_eqv {D : va_G} {cl : List vw_C} {q : Nat} {x y : va_E} {H : Heap} (h : Eqv x y) (hx : va_at D cl (q, x) H) : va_at D cl (q, y) H := by
  rcases h with rfl | ⟨t, N, f, g, rfl, rfl, h⟩
  · exact hx
  · have q' : H[q]? = some (arrV t N (fun j => va_rf (f j))) := hx
    show H[q]? = some (arrV t N (fun j => va_rf (g j)))
    rw [q', arrV_congr (fun j hj => by rw [h j hj])]
def A1 (ad : Nat → Nat) (n0 sz : Nat) : Nat → Prop := fun q => (∃ k, k ≤ n0 ∧ q = ad k) ∨ sz ≤ q
theorem Wd_inv {tc : Nat → ClassId} {ad : Nat → Nat} {M : Nat → Nat → Int32} {k : Nat} {q : Nat × va_E} (h : (Wd tc ad M)[k]? = some q) : k < nW ad ∧ q = (ad k, cel tc ad k (M k)) := by
  have hl := (List.getElem?_eq_some_iff.mp h).1
  have e : (Wd tc ad M).length = nW ad := by unfold Wd; simp
  rw [e] at hl
  rw [Wd_at tc ad M hl] at h
  exact ⟨hl, (Option.some.inj h).symm⟩
/-- from the growing world to the world -/
theorem wg_wd {D : va_G} {tc : Nat → ClassId} {ad : Nat → Nat} {ct : Nat → va_E} {M : Nat → Nat → Int32} {n1 : Nat} {H : Heap} (h1 : n1 ≤ 711) (hct : ∀ k, k < n1 → Eqv (ct k) (cel tc (put ad 1999 n1) k (M k))) (hP : va_P D vwCl (Wg ad ct n1) H) : va_P D vwCl (Wd tc (put ad 1999 n1) M) H := by
  intro k q hk
  obtain ⟨hl, rfl⟩ := Wd_inv hk
  have hl : k < n1 := hl
  have e : put ad 1999 n1 k = ad k := put_n (by omega)
  rw [e]
  exact va_at_eqv (hct k hl) (hP k _ (Wg_at hl))
theorem wg_inj {ad : Nat → Nat} {ct : Nat → va_E} {n1 : Nat} {A : Nat → Prop} (h1 : n1 ≤ 711) (hD : va_D A (Wg ad ct n1)) : Inj (put ad 1999 n1) := by
  intro i j hi hj e
  have hi : i < n1 := hi
  have hj : j < n1 := hj
  rw [put_n (by omega), put_n (by omega)] at e
  exact hD.1 i j _ _ (Wg_at hi) (Wg_at hj) e
theorem wg_A {ad ad0 : Nat → Nat} {ct : Nat → va_E} {n0 n1 sz : Nat} (h1 : n1 ≤ 711) (h0 : n0 < n1) (hku : ∀ i, i ≤ n0 ∨ 1000 ≤ i → ad i = ad0 i) (hD : va_D (A1 ad0 n0 sz) (Wg ad ct n1)) : ∀ q, A0 (put ad 1999 n1) sz q ↔ A1 ad0 n0 sz q := by
  intro q
  refine ⟨fun h => ?_, fun h => ?_⟩
  · rcases h with ⟨k, hk, rfl⟩ | h
    · have hk : k < n1 := hk
      rw [put_n (by omega)]
      exact hD.2 k _ (Wg_at hk)
    · exact Or.inr h
  · rcases h with ⟨k, hk, rfl⟩ | h
    · exact Or.inl ⟨k, show k < n1 by omega, by rw [put_n (by omega), hku k (Or.inl hk)]⟩
    · exact Or.inr h
theorem va_S_iff {A B : Nat → Prop} (h : ∀ q, A q ↔ B q) {H0 H : Heap} {locs : List Loc} (hS : va_S A H0 H locs) : va_S B H0 H locs := ⟨hS.1, fun q h1 h2 => hS.2.1 q h1 (fun z => h2 ((h q).mp z)), fun x hx => (h _).mp (hS.2.2 x hx)⟩
def QN (D : va_G) (tc : Nat → ClassId) (ad : Nat → Nat) (n0 n1 sz : Nat) (K : (Nat → Nat → Int32) → Prop) : Array Value → State → Outcome → State → Prop :=
  va_Qv (S := (Nat → Nat) × (Nat → Nat → Int32)) (fun u => (∀ i, i ≤ n0 ∨ 2000 ≤ i → u.1 i = ad i) ∧ nW u.1 = n1 ∧ Inj u.1 ∧ (∀ q, A0 u.1 sz q ↔ A1 ad n0 sz q) ∧ K u.2) (fun u t => va_P D vwCl (Wd tc u.1 u.2) t.heap) (A1 ad n0 sz)
/-- a constructor whose last part runs methods over the whole world -/
def MN (y : MethodName) (bytes : ByteArray) (maxL d mc ms n0 n1 : Nat) (fr : va_E) (M : Nat → Nat → Int32) (K : (Nat → Nat → Int32) → Prop) : Prop :=
  ∀ (l : Launch) (D : va_G) (tc : Nat → ClassId) (ad : Nat → Nat) (ct : Nat → va_E) (sz : Nat), (∀ k, k < n0 → ct k = cel tc ad k (M k)) → (∀ (ad' : Nat → Nat) k, k < n0 → (∀ i, i ≤ n0 ∨ 2000 ≤ i → ad' i = ad i) → Eqv (cel tc ad k (M k)) (cel tc ad' k (M k))) → ct n0 = fr → Met l y (Cond.code y bytes maxL none :: TS) (rmC d mc ms) (va_Pc [.ref (ad n0)] (fun U => U.heap.size = sz ∧ PreC D (A1 ad n0 sz) tc ad ct (n0 + 1) U)) (QN D tc ad n0 n1 sz K) mc ms (A1 ad n0 sz)
section RE
variable {p : Program} {l : Launch} {e : Env} {R : Room} {s : State} {m : MethodId} {args : Array Value} {below : List Frame} {meth : Method} {c : Code} {cells slots : Nat} {Q : State → Prop} {D : va_G} {tc : Nat → ClassId} {ad0 ad : Nat → Nat} {ct : Nat → va_E} {n0 n1 nL : Nat} {own : String} {cc : ByteArray} {pc : Nat} {L : List (Nat × Value)} {st : List Value} {M : Nat → Nat → Int32}
theorem rc_enter (E : Ec p s m args meth c D (A1 ad0 n0 s.heap.size) tc ad0 own cc nL) (h1 : n1 ≤ 711) (h0 : n0 < n1) (hlim : Lim own ≤ n1) (hku : ∀ i, i ≤ n0 ∨ 1000 ≤ i → ad i = ad0 i) (hct : ∀ k, k < n1 → Eqv (ct k) (cel tc (put ad 1999 n1) k (M k)))
    (kk : (∀ q, A0 (put ad 1999 n1) s.heap.size q ↔ A1 ad0 n0 s.heap.size q) → Ev p s m args meth c D tc (put ad 1999 n1) own cc nL → Wa p l e R s m args below meth c cells slots Q D tc (put ad 1999 n1) nL M pc L st) : Wc p l e R s m args below meth c cells slots Q D (A1 ad0 n0 s.heap.size) nL ad ct n1 pc L st := by
  intro H locs ls hP hD hS h
  have hA := wg_A h1 h0 hku hD
  refine kk hA ⟨E.1, E.2.1, E.2.2.1, E.2.2.2.1, E.2.2.2.2.1, E.2.2.2.2.2.1, wg_inj h1 hD, ?_, E.2.2.2.2.2.2.2.2.1, hlim⟩ H locs ls (wg_wd h1 hct hP) (va_S_iff (fun q => (hA q).symm) hS) h
  have hS0 : St ad0 (A0 (put ad 1999 n1) s.heap.size) s s.heap := E.2.2.2.2.2.2.2.1.narrow (fun q hq => (hA q).mp hq)
  have e0 : ∀ i, 2000 ≤ i → put ad 1999 n1 i = ad0 i := fun i hi => (put_n (by omega)).trans (hku i (by omega))
  exact St_up2 e0 hS0
theorem rn_vret {K : (Nat → Nat → Int32) → Prop} {mc ms : Nat} (E : Ev p s m args meth c D tc ad own cc nL) (hr : meth.sig.returnType = none) (hu : ∀ i, i ≤ n0 ∨ 2000 ≤ i → ad i = ad0 i) (hn : nW ad = n1) (hA : ∀ q, A0 ad s.heap.size q ↔ A1 ad0 n0 s.heap.size q) (hmc : cells ≤ mc ∧ slots ≤ ms) (d : decode cc pc = .ok (.return_, 1)) (k : K M) : Wa p l e R s m args below meth c cells slots (MQ below (QN D tc ad0 n0 n1 s.heap.size K) args s mc ms (A1 ad0 n0 s.heap.size)) D tc ad nL M pc L [] := fun H locs ls hP hS h => by
  have hS1 := va_S_iff hA hS
  exact W.widen hmc.1 hmc.2 (W.vret E.1 E.2.1 hr (fun t ht _ => ⟨⟨(ad, M), rfl, ⟨hu, hn, E.2.2.2.2.2.2.1, hA, k⟩, by show va_P D vwCl _ t.heap; rw [ht]; exact hP⟩, hS1.F ht⟩) hS1.2.2 d E.2.2.2.2.2.2.2.2.1)
end RE
theorem MN_of {y : MethodName} {bytes : ByteArray} {maxL d mc ms n0 n1 : Nat} {fr : va_E} {M : Nat → Nat → Int32} {K : (Nat → Nat → Int32) → Prop} (own : String) (hown : y.cls = own) (hy : plainName y.cls = true) (hin : y.name = "<init>") (hlen : 1 ≤ maxL)
    (body : ∀ (p : Program) (l : Launch) (e : Env) (s : State) (m : MethodId) (below : List Frame) (meth : Method) (c : Code) (D : va_G) (tc : Nat → ClassId) (ad : Nat → Nat) (ct : Nat → va_E), (∀ k, k < n0 → ct k = cel tc ad k (M k)) → (∀ (ad' : Nat → Nat) k, k < n0 → (∀ i, i ≤ n0 ∨ 2000 ≤ i → ad' i = ad i) → Eqv (cel tc ad k (M k)) (cel tc ad' k (M k))) → ct n0 = fr → Ec p s m [Value.ref (ad n0)].toArray meth c D (A1 ad n0 s.heap.size) tc ad own bytes maxL → meth.sig.returnType = none → Wc p l e (rmC d mc ms) s m [Value.ref (ad n0)].toArray below meth c 0 0 (MQ below (QN D tc ad n0 n1 s.heap.size K) [Value.ref (ad n0)].toArray s mc ms (A1 ad n0 s.heap.size)) D (A1 ad n0 s.heap.size) maxL ad ct (n0 + 1) 0 [(0, .ref (ad n0))] []) : MN y bytes maxL d mc ms n0 n1 fr M K := by
  intro l D tc ad ct sz hct hce hfr
  refine Met.ofW (cc := bytes) (maxL := maxL) (ret := none) hy rfl ?_
  intro p e s m args below meth c s₁ B hml hv
  obtain ⟨rfl, hsz, hP, hD, hA, hK, hS, hO⟩ := hv
  subst hsz
  have hts := atoms_spec (ws := Cond.code y bytes maxL none :: TS) B.pre
  have hts : ∀ w ∈ TS, w.before [Value.ref (ad n0)].toArray s = true := fun w h => hts w (List.mem_cons_of_mem _ h)
  have ho : s.vm.findClass own = some m.cls := by rw [← hown]; exact findClass_of_methodNamed B.named
  have hl := lv_entry [Value.ref (ad n0)] (n := maxL) hlen
  rw [lg_entry_eq]
  generalize (lg_sl [Value.ref (ad n0)] ++ List.replicate (maxL - (lg_sl [Value.ref (ad n0)]).length) Slot.unset).toArray = ls at hl ⊢
  exact body p l e s m below meth c D tc ad ct hct hce hfr ⟨B.exec, B.bytes, hml, ho, hts, hK, hA, hS, B.notSynchronized, hO, (name_of_methodNamed B.named B.method).1.trans hin⟩ B.returns s.heap [] ls hP hD va_S.rf hl
