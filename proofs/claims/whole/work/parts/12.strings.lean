/-- the char at a place of a text; where a byte stands in the signs -/
def chT (i : Nat) (k : Int32) : Int32 := (bytT.getD i []).getD k.toNatClampNeg 0
def ixF (c : Int32) : List Int32 → Nat → Int32
  | [], _ => -1
  | b :: l, k => if b = c then nI k else ixF c l (k + 1)
def ixT (i : Nat) (c : Int32) : Int32 := ixF c (bytT.getD i []) 0
theorem m_slen {Γ : Gm} {Y : Sy} {ad : Nat → Nat} {M : Nat} (l : Launch) {post : Int32 → St → Prop} (i : Nat) (hi : i < 3) (σ : St) (h : post (nI (lenT.getD i 0)) σ) : Ci l Γ Y M ad σ yJ0_length_8abf5 cJ0_length_8abf5 1 (some .int) 9 0 0 [.ref (Γ.2.2.2.2.1 i)] post := by
  sorry
theorem m_schar {Γ : Gm} {Y : Sy} {ad : Nat → Nat} {M : Nat} (l : Launch) {post : Int32 → St → Prop} (i : Nat) (hi : i < 3) (k : Int32) (hk : vp_in k (lenT.getD i 0)) (σ : St) (h : post (chT i k) σ) : Ci l Γ Y M ad σ yJ0_charAt_5068e cJ0_charAt_5068e 2 (some .char) 9 0 0 [.ref (Γ.2.2.2.2.1 i), .int k] post := by
  sorry
theorem m_sidx {Γ : Gm} {Y : Sy} {ad : Nat → Nat} {M : Nat} (l : Launch) {post : Int32 → St → Prop} (i : Nat) (hi : i < 3) (k : Int32) (hk : 0 ≤ k ∧ k ≤ 255) (σ : St) (h : post (ixT i k) σ) : Ci l Γ Y M ad σ yJ0_indexOf_0f7a4 cJ0_indexOf_0f7a4 2 (some .int) 9 0 0 [.ref (Γ.2.2.2.2.1 i), .int k] post := by
  sorry
section RULES5
variable {Γ : Gm} {Y : Sy} {M : Nat} {ad : Nat → Nat} {σ : St} {p : Program} {l : Launch} {e : Env} {R : Room} {s : State} {m : MethodId} {args : Array Value} {below : List Frame} {meth : Method} {c : Code} {H : Heap} {locs : List Loc} {cells slots : Nat} {Q : State → Prop} {cc : ByteArray} {pc nL : Nat} {ls : Array Slot} {rest st : List Value} {own : String}
theorem g_Vs {i index n mx k : Nat} {y : MethodName} {b : ByteArray} {ret : Option FieldType} {As : List Value} {post : Int32 → St → Prop} (hi : i < 3) (hwd : VW own index "java/lang/String" y b mx ret n) (hR : 2 * k + 4 + 1 ≤ R.frames ∧ 8 + (mx + 11) + 60 * (k + 1) ≤ R.locals ∧ cells ≤ R.cells ∧ slots ≤ R.slots)
    (hc : CX Γ p s m args meth c cc own nL) (hw : WH Γ Y M ad σ s H locs) (hl : ls.size = nL) (hM : Ci l Γ Y M ad σ y b mx ret k 0 0 (.ref (Γ.2.2.2.2.1 i) :: As) post) (hn : As.length = n) (hst : st = As.reverse ++ .ref (Γ.2.2.2.2.1 i) :: rest) (hs : (rest.map fun v => v.category).sum ≤ 8) (hdg : decode cc pc = .ok (.invokevirtual index, 3))
    (kk : ∀ (r : Int32) (u : St) (H1 : Heap) (locs1 : List Loc), post r u → WH Γ Y M ad u s H1 locs1 → W p l e R s m args below meth c H1 locs1 cells slots Q (F0 m (pc + 3) ls (.int r :: rest))) : W p l e R s m args below meth c H locs cells slots Q (F0 m pc ls st) := by
  subst hst
  exact va_calli (va_runV (As := As) (rest := rest) ⟨hc.1, hc.2.1, hc.2.2.1, hc.2.2.2.1, hc.2.2.2.2.1⟩ hM (cwV n hc.2.2.2.2.1 hwd.good rfl rfl rfl hwd.2.2.2.2.2 ⟨hR.1, hR.2.1⟩) ⟨fun a U g mk q => ⟨q.1, q.2.calling g mk a⟩, vk_recv hc.2.2.2.2.2.2.2.2.2.2.1.1 hi hw.2.2, fun U hU hW => ⟨rfl, hw.wc hc hU hW⟩⟩ rfl hn hl rfl (lv_room hs) hdg ⟨hR.2.2.1, hR.2.2.2⟩) hw.2.2 (fun q _ h => h) (fun q h => h) (fun r u t H1 locs1 ht hvm hp hB _ _ hS => kk r u H1 locs1 hp (hB.wh ht hS))
end RULES5
