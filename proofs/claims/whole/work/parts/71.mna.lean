/-- new int[N][K]: the outer row, then the inner ones, one behind another -/
def upM (cA : Nat → ClassId) (h0 : Nat) (ce : Nat → va_E) (n N K : Nat) : Nat → va_E := fun j => if j < n then ce j else if j = n then .inl (cA 2, N, .inr (.inr (.inr (.inr (fun i => if i < N then some (h0 + n + 1 + i) else none))))) else .inl (cA 0, K, .inl (fun _ => 0))
theorem upM_lt {cA : Nat → ClassId} {h0 : Nat} {ce : Nat → va_E} {n N K k : Nat} (h : k < n) : upM cA h0 ce n N K k = ce k := if_pos h
theorem upM_row {cA : Nat → ClassId} {h0 : Nat} {ce : Nat → va_E} {n N K k : Nat} (h : n < k) : upM cA h0 ce n N K k = .inl (cA 0, K, .inl (fun _ => 0)) := by
  unfold upM
  rw [if_neg (by omega), if_neg (by omega)]
theorem fx_mna {p : Program} {l : Launch} {e : Env} {R : Room} {s : State} {m : MethodId} {args : Array Value} {below : List Frame} {meth : Method} {c : Code} {H : Heap} {locs : List Loc} {Q : State → Prop} {cc : ByteArray} {pc : Nat} {ls : Array Slot} {rest : List Value} {D : va_G} {cA : Nat → ClassId} {h0 n : Nat} {ce : Nat → va_E} {H0 : Heap} {cells slots : Nat} (hexec : p.tables.exec = Jvm.exec) (hb : c.code = cc) {own : String} {index : Nat} (hown : s.vm.findClass own = some m.cls) (hclink : (Cond.classLink own index "[[I").before args s = true) (hover : (Cond.arrayOver (.array .int)).before args s = true) (harr : (Cond.arrayClass .int).before args s = true)
    (hK : va_K D vwCl (gty cA) s) (hz : H.size = h0 + n) (hP : va_P D vwCl (gx h0 n ce) H) (hS : va_S (gB h0) H0 H locs) {x k : Int32} {N K : Nat} (hn : ¬ x < 0) (hk : ¬ k < 0) (hN : x.toNatClampNeg = N) (hM : k.toNatClampNeg = K)
    (hb1 : N * 4 ≤ 536870912) (hb2 : K * 4 ≤ 536870912) (hcells : cells + (1 + N) ≤ R.cells) (hslots : slots + (N + N * K) ≤ R.slots) (hdg : decode cc pc = .ok (.multianewarray index 2, 4))
    (kk : ∀ (H1 : Heap), H1.size = h0 + (n + 1 + N) → va_P D vwCl (gx h0 (n + 1 + N) (upM cA h0 ce n N K)) H1 → va_S (gB h0) H0 H1 locs →
      W p l e R s m args below meth c H1 locs (cells + 1 + N) (slots + N + N * K) Q (F0 m (pc + 4) ls (.ref (h0 + n) :: rest))) : W p l e R s m args below meth c H locs cells slots Q (F0 m pc ls (.int k :: .int x :: rest)) := by
  subst hN
  subst hM
  refine g_mna hexec hb hown hclink hover harr hn hk rfl rfl hb1 hb2 hcells hslots hdg fun H1 cB comp e1 e2 z1 o1 q1 q2 => ?_
  have hcB : cB = cA 2 := Option.some.inj (e1.symm.trans (hK.2 2 (cA 2, .array .int) rfl).2)
  have hcc : comp = cA 0 := Option.some.inj (e2.symm.trans (hK.2 0 (cA 0, .int) rfl).2)
  subst hcB
  subst hcc
  have hP1 : va_P D vwCl (gx h0 (n + 1 + x.toNatClampNeg) (upM cA h0 ce n x.toNatClampNeg k.toNatClampNeg)) H1 := by
    intro j q hj
    obtain ⟨g1, rfl⟩ := gx_mem hj
    by_cases c1 : j < n
    · rw [upM_lt c1]
      exact (hP j (h0 + j, ce j) (gx_get c1 rfl)).kept (o1 (h0 + j) (by omega))
    · by_cases c2 : n < j
      · rw [upM_row c2]
        have := q2 (j - n - 1) (by omega)
        rw [hz, show h0 + n + 1 + (j - n - 1) = h0 + j by omega] at this
        exact this
      · have : j = n := by omega
        subst this
        have e : upM cA h0 ce j x.toNatClampNeg k.toNatClampNeg j = .inl (cA 2, x.toNatClampNeg, .inr (.inr (.inr (.inr (fun i => if i < x.toNatClampNeg then some (h0 + j + 1 + i) else none))))) := by
          unfold upM
          rw [if_neg (by omega), if_pos rfl]
        rw [e]
        rw [hz] at q1
        exact q1
  have := kk H1 (by omega) hP1 (fx_S (k := 1 + x.toNatClampNeg) hz hS (by omega) (fun q hq => o1 q (by omega)))
  rw [hz]
  exact this
