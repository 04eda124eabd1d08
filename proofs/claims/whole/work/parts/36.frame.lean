-- the model's functions over a memory whose other objects are another's (printed by wip/gen/emit36.py)
def mg (μ ρ : Mem) : Mem := fun o j => if 259 ≤ o ∧ o ≤ 280 then ρ o j else μ o j
def mgP (μ : Mem) (p : Int × Mem) : Int × Mem := (p.1, mg μ p.2)
theorem mg_in {μ ρ : Mem} {o : Int} (h : 259 ≤ o ∧ o ≤ 280) : mg μ ρ o = ρ o := funext fun _ => if_pos h
theorem mg_out {μ ρ : Mem} {o : Int} (h : ¬ (259 ≤ o ∧ o ≤ 280)) : mg μ ρ o = μ o := funext fun _ => if_neg h
theorem wr_mg {μ ρ : Mem} {o i v : Int} (h : 259 ≤ o ∧ o ≤ 280) : wr (mg μ ρ) o i v = mg μ (wr ρ o i v) := by
  funext a j
  unfold wr mg
  by_cases e : a = o
  · subst e
    rw [if_pos h, if_pos h]
  · have e2 : ¬ (a = o ∧ j = i) := fun x => e x.1
    simp only [if_neg e2]
theorem fsI {μ ρ : Mem} {o n i v : Int} (h : 259 ≤ o ∧ o ≤ 280) : sI (mg μ ρ) o n i v = (sI ρ o n i v).map (mg μ) := by
  unfold sI
  by_cases e : 0 ≤ i ∧ i < n
  · rw [if_pos e, if_pos e, wr_mg h]; rfl
  · rw [if_neg e, if_neg e]; rfl
theorem fpz {μ ρ : Mem} {o f v : Int} (h : 259 ≤ o ∧ o ≤ 280) : pz (mg μ ρ) o f v = (pz ρ o f v).map (mg μ) := by
  unfold pz
  by_cases e : v = 0 ∨ v = 1
  · rw [if_pos e, if_pos e, wr_mg h]; rfl
  · rw [if_neg e, if_neg e]; rfl
theorem bmap {α β γ : Type} {o : Option α} {f : α → β} {g : β → Option γ} : (o.map f).bind g = o.bind (fun x => g (f x)) := by cases o <;> rfl
theorem mbind {α β γ : Type} {o : Option α} {f : α → Option β} {g : β → γ} : (o.bind f).map g = o.bind (fun x => (f x).map g) := by cases o <;> rfl
theorem mite {α β : Type} {p : Prop} {d : Decidable p} {a b : Option α} {g : α → β} : (if p then a else b).map g = if p then a.map g else b.map g := by
  by_cases h : p
  · rw [if_pos h, if_pos h]
  · rw [if_neg h, if_neg h]
theorem mg_259 {μ ρ : Mem} : mg μ ρ 259 = ρ 259 := funext fun _ => if_pos ⟨by decide, by decide⟩
theorem fa_259 {μ ρ : Mem} {n i : Int} : aI (mg μ ρ) 259 n i = aI ρ 259 n i := by unfold aI; rw [mg_259]
theorem fs_259 {μ ρ : Mem} {n i v : Int} : sI (mg μ ρ) 259 n i v = (sI ρ 259 n i v).map (mg μ) := fsI ⟨by decide, by decide⟩
theorem mg_260 {μ ρ : Mem} : mg μ ρ 260 = ρ 260 := funext fun _ => if_pos ⟨by decide, by decide⟩
theorem fa_260 {μ ρ : Mem} {n i : Int} : aI (mg μ ρ) 260 n i = aI ρ 260 n i := by unfold aI; rw [mg_260]
theorem fs_260 {μ ρ : Mem} {n i v : Int} : sI (mg μ ρ) 260 n i v = (sI ρ 260 n i v).map (mg μ) := fsI ⟨by decide, by decide⟩
theorem mg_261 {μ ρ : Mem} : mg μ ρ 261 = ρ 261 := funext fun _ => if_pos ⟨by decide, by decide⟩
theorem fa_261 {μ ρ : Mem} {n i : Int} : aI (mg μ ρ) 261 n i = aI ρ 261 n i := by unfold aI; rw [mg_261]
theorem fs_261 {μ ρ : Mem} {n i v : Int} : sI (mg μ ρ) 261 n i v = (sI ρ 261 n i v).map (mg μ) := fsI ⟨by decide, by decide⟩
theorem mg_262 {μ ρ : Mem} : mg μ ρ 262 = ρ 262 := funext fun _ => if_pos ⟨by decide, by decide⟩
theorem fa_262 {μ ρ : Mem} {n i : Int} : aI (mg μ ρ) 262 n i = aI ρ 262 n i := by unfold aI; rw [mg_262]
theorem fs_262 {μ ρ : Mem} {n i v : Int} : sI (mg μ ρ) 262 n i v = (sI ρ 262 n i v).map (mg μ) := fsI ⟨by decide, by decide⟩
theorem mg_263 {μ ρ : Mem} : mg μ ρ 263 = ρ 263 := funext fun _ => if_pos ⟨by decide, by decide⟩
theorem fa_263 {μ ρ : Mem} {n i : Int} : aI (mg μ ρ) 263 n i = aI ρ 263 n i := by unfold aI; rw [mg_263]
theorem fs_263 {μ ρ : Mem} {n i v : Int} : sI (mg μ ρ) 263 n i v = (sI ρ 263 n i v).map (mg μ) := fsI ⟨by decide, by decide⟩
theorem mg_264 {μ ρ : Mem} : mg μ ρ 264 = ρ 264 := funext fun _ => if_pos ⟨by decide, by decide⟩
theorem fa_264 {μ ρ : Mem} {n i : Int} : aI (mg μ ρ) 264 n i = aI ρ 264 n i := by unfold aI; rw [mg_264]
theorem fs_264 {μ ρ : Mem} {n i v : Int} : sI (mg μ ρ) 264 n i v = (sI ρ 264 n i v).map (mg μ) := fsI ⟨by decide, by decide⟩
theorem mg_265 {μ ρ : Mem} : mg μ ρ 265 = ρ 265 := funext fun _ => if_pos ⟨by decide, by decide⟩
theorem fa_265 {μ ρ : Mem} {n i : Int} : aI (mg μ ρ) 265 n i = aI ρ 265 n i := by unfold aI; rw [mg_265]
theorem fs_265 {μ ρ : Mem} {n i v : Int} : sI (mg μ ρ) 265 n i v = (sI ρ 265 n i v).map (mg μ) := fsI ⟨by decide, by decide⟩
theorem mg_266 {μ ρ : Mem} : mg μ ρ 266 = ρ 266 := funext fun _ => if_pos ⟨by decide, by decide⟩
theorem fa_266 {μ ρ : Mem} {n i : Int} : aI (mg μ ρ) 266 n i = aI ρ 266 n i := by unfold aI; rw [mg_266]
theorem fs_266 {μ ρ : Mem} {n i v : Int} : sI (mg μ ρ) 266 n i v = (sI ρ 266 n i v).map (mg μ) := fsI ⟨by decide, by decide⟩
theorem mg_267 {μ ρ : Mem} : mg μ ρ 267 = ρ 267 := funext fun _ => if_pos ⟨by decide, by decide⟩
theorem fa_267 {μ ρ : Mem} {n i : Int} : aI (mg μ ρ) 267 n i = aI ρ 267 n i := by unfold aI; rw [mg_267]
theorem fs_267 {μ ρ : Mem} {n i v : Int} : sI (mg μ ρ) 267 n i v = (sI ρ 267 n i v).map (mg μ) := fsI ⟨by decide, by decide⟩
theorem mg_268 {μ ρ : Mem} : mg μ ρ 268 = ρ 268 := funext fun _ => if_pos ⟨by decide, by decide⟩
theorem fa_268 {μ ρ : Mem} {n i : Int} : aI (mg μ ρ) 268 n i = aI ρ 268 n i := by unfold aI; rw [mg_268]
theorem fs_268 {μ ρ : Mem} {n i v : Int} : sI (mg μ ρ) 268 n i v = (sI ρ 268 n i v).map (mg μ) := fsI ⟨by decide, by decide⟩
theorem mg_269 {μ ρ : Mem} : mg μ ρ 269 = ρ 269 := funext fun _ => if_pos ⟨by decide, by decide⟩
theorem fa_269 {μ ρ : Mem} {n i : Int} : aI (mg μ ρ) 269 n i = aI ρ 269 n i := by unfold aI; rw [mg_269]
theorem fs_269 {μ ρ : Mem} {n i v : Int} : sI (mg μ ρ) 269 n i v = (sI ρ 269 n i v).map (mg μ) := fsI ⟨by decide, by decide⟩
theorem mg_270 {μ ρ : Mem} : mg μ ρ 270 = ρ 270 := funext fun _ => if_pos ⟨by decide, by decide⟩
theorem fa_270 {μ ρ : Mem} {n i : Int} : aI (mg μ ρ) 270 n i = aI ρ 270 n i := by unfold aI; rw [mg_270]
theorem fs_270 {μ ρ : Mem} {n i v : Int} : sI (mg μ ρ) 270 n i v = (sI ρ 270 n i v).map (mg μ) := fsI ⟨by decide, by decide⟩
theorem mg_271 {μ ρ : Mem} : mg μ ρ 271 = ρ 271 := funext fun _ => if_pos ⟨by decide, by decide⟩
theorem fa_271 {μ ρ : Mem} {n i : Int} : aI (mg μ ρ) 271 n i = aI ρ 271 n i := by unfold aI; rw [mg_271]
theorem fs_271 {μ ρ : Mem} {n i v : Int} : sI (mg μ ρ) 271 n i v = (sI ρ 271 n i v).map (mg μ) := fsI ⟨by decide, by decide⟩
theorem mg_272 {μ ρ : Mem} : mg μ ρ 272 = ρ 272 := funext fun _ => if_pos ⟨by decide, by decide⟩
theorem fa_272 {μ ρ : Mem} {n i : Int} : aI (mg μ ρ) 272 n i = aI ρ 272 n i := by unfold aI; rw [mg_272]
theorem fs_272 {μ ρ : Mem} {n i v : Int} : sI (mg μ ρ) 272 n i v = (sI ρ 272 n i v).map (mg μ) := fsI ⟨by decide, by decide⟩
theorem mg_273 {μ ρ : Mem} : mg μ ρ 273 = ρ 273 := funext fun _ => if_pos ⟨by decide, by decide⟩
theorem fa_273 {μ ρ : Mem} {n i : Int} : aI (mg μ ρ) 273 n i = aI ρ 273 n i := by unfold aI; rw [mg_273]
theorem fs_273 {μ ρ : Mem} {n i v : Int} : sI (mg μ ρ) 273 n i v = (sI ρ 273 n i v).map (mg μ) := fsI ⟨by decide, by decide⟩
theorem mg_274 {μ ρ : Mem} : mg μ ρ 274 = ρ 274 := funext fun _ => if_pos ⟨by decide, by decide⟩
theorem fa_274 {μ ρ : Mem} {n i : Int} : aI (mg μ ρ) 274 n i = aI ρ 274 n i := by unfold aI; rw [mg_274]
theorem fs_274 {μ ρ : Mem} {n i v : Int} : sI (mg μ ρ) 274 n i v = (sI ρ 274 n i v).map (mg μ) := fsI ⟨by decide, by decide⟩
theorem mg_275 {μ ρ : Mem} : mg μ ρ 275 = ρ 275 := funext fun _ => if_pos ⟨by decide, by decide⟩
theorem fa_275 {μ ρ : Mem} {n i : Int} : aI (mg μ ρ) 275 n i = aI ρ 275 n i := by unfold aI; rw [mg_275]
theorem fs_275 {μ ρ : Mem} {n i v : Int} : sI (mg μ ρ) 275 n i v = (sI ρ 275 n i v).map (mg μ) := fsI ⟨by decide, by decide⟩
theorem mg_276 {μ ρ : Mem} : mg μ ρ 276 = ρ 276 := funext fun _ => if_pos ⟨by decide, by decide⟩
theorem fa_276 {μ ρ : Mem} {n i : Int} : aI (mg μ ρ) 276 n i = aI ρ 276 n i := by unfold aI; rw [mg_276]
theorem fs_276 {μ ρ : Mem} {n i v : Int} : sI (mg μ ρ) 276 n i v = (sI ρ 276 n i v).map (mg μ) := fsI ⟨by decide, by decide⟩
theorem mg_277 {μ ρ : Mem} : mg μ ρ 277 = ρ 277 := funext fun _ => if_pos ⟨by decide, by decide⟩
theorem fa_277 {μ ρ : Mem} {n i : Int} : aI (mg μ ρ) 277 n i = aI ρ 277 n i := by unfold aI; rw [mg_277]
theorem fs_277 {μ ρ : Mem} {n i v : Int} : sI (mg μ ρ) 277 n i v = (sI ρ 277 n i v).map (mg μ) := fsI ⟨by decide, by decide⟩
theorem mg_278 {μ ρ : Mem} : mg μ ρ 278 = ρ 278 := funext fun _ => if_pos ⟨by decide, by decide⟩
theorem fa_278 {μ ρ : Mem} {n i : Int} : aI (mg μ ρ) 278 n i = aI ρ 278 n i := by unfold aI; rw [mg_278]
theorem fs_278 {μ ρ : Mem} {n i v : Int} : sI (mg μ ρ) 278 n i v = (sI ρ 278 n i v).map (mg μ) := fsI ⟨by decide, by decide⟩
theorem mg_279 {μ ρ : Mem} : mg μ ρ 279 = ρ 279 := funext fun _ => if_pos ⟨by decide, by decide⟩
theorem fa_279 {μ ρ : Mem} {n i : Int} : aI (mg μ ρ) 279 n i = aI ρ 279 n i := by unfold aI; rw [mg_279]
theorem fs_279 {μ ρ : Mem} {n i v : Int} : sI (mg μ ρ) 279 n i v = (sI ρ 279 n i v).map (mg μ) := fsI ⟨by decide, by decide⟩
theorem mg_280 {μ ρ : Mem} : mg μ ρ 280 = ρ 280 := funext fun _ => if_pos ⟨by decide, by decide⟩
theorem fa_280 {μ ρ : Mem} {n i : Int} : aI (mg μ ρ) 280 n i = aI ρ 280 n i := by unfold aI; rw [mg_280]
theorem fs_280 {μ ρ : Mem} {n i v : Int} : sI (mg μ ρ) 280 n i v = (sI ρ 280 n i v).map (mg μ) := fsI ⟨by decide, by decide⟩
theorem fw_259 {μ ρ : Mem} {f v : Int} : wr (mg μ ρ) 259 f v = mg μ (wr ρ 259 f v) := wr_mg ⟨by decide, by decide⟩
theorem fz_259 {μ ρ : Mem} {f v : Int} : pz (mg μ ρ) 259 f v = (pz ρ 259 f v).map (mg μ) := fpz ⟨by decide, by decide⟩
theorem fr_M_fourBytes_3_x {μ : Mem}  {l1 : Int}  : ∀ (n : Nat) (ρ : Mem) (l2 : Int), M_fourBytes_3 l1 n (mg μ ρ) l2 = (M_fourBytes_3 l1 n ρ l2).map (mg μ) := by
  intro n
  induction n with
  | zero => intro ρ l2; rfl
  | succ n ih =>
    intro ρ l2
    rw [M_fourBytes_3, M_fourBytes_3]
    simp only [mg_259, mg_260, mg_261, mg_262, mg_263, mg_264, mg_265, mg_266, mg_267, mg_268, mg_269, mg_270, mg_271, mg_272, mg_273, mg_274, mg_275, mg_276, mg_277, mg_278, mg_279, mg_280, fa_260, fa_261, fa_262, fa_263, fa_264, fa_265, fa_266, fa_267, fa_268, fa_269, fa_270, fa_271, fa_272, fa_273, fa_274, fa_275, fa_276, fa_277, fa_278, fa_279, fa_280, fs_260, fs_261, fs_262, fs_263, fs_264, fs_265, fs_266, fs_267, fs_268, fs_269, fs_270, fs_271, fs_272, fs_273, fs_274, fs_275, fs_276, fs_277, fs_278, fs_279, fs_280, fw_259, fz_259, bmap, mbind, mite, Option.map_some, Option.map_none, Option.bind_some, mgP, ih]
theorem fr_M_fourBytes_3 {μ ρ : Mem}  {l1 : Int}  {n : Nat} {l2 : Int} : M_fourBytes_3 l1 n (mg μ ρ) l2 = (M_fourBytes_3 l1 n ρ l2).map (mg μ) := fr_M_fourBytes_3_x  _ _ _
theorem fr_M_fourBytes {μ ρ : Mem}  {a1 : Int}  : M_fourBytes (mg μ ρ) a1 = (M_fourBytes ρ a1).map (mg μ) := by
  unfold M_fourBytes
  simp only [mg_259, mg_260, mg_261, mg_262, mg_263, mg_264, mg_265, mg_266, mg_267, mg_268, mg_269, mg_270, mg_271, mg_272, mg_273, mg_274, mg_275, mg_276, mg_277, mg_278, mg_279, mg_280, fa_260, fa_261, fa_262, fa_263, fa_264, fa_265, fa_266, fa_267, fa_268, fa_269, fa_270, fa_271, fa_272, fa_273, fa_274, fa_275, fa_276, fa_277, fa_278, fa_279, fa_280, fs_260, fs_261, fs_262, fs_263, fs_264, fs_265, fs_266, fs_267, fs_268, fs_269, fs_270, fs_271, fs_272, fs_273, fs_274, fs_275, fs_276, fs_277, fs_278, fs_279, fs_280, fw_259, fz_259, bmap, mbind, mite, Option.map_some, Option.map_none, Option.bind_some, mgP, fr_M_fourBytes_3]
theorem fr_M_feed {μ ρ : Mem}  {a1 : Int} {a2 : Int} {a3 : Int} {a4 : Int} {a5 : Int}  : M_feed (mg μ ρ) a1 a2 a3 a4 a5 = (M_feed ρ a1 a2 a3 a4 a5).map (mgP μ) := by
  unfold M_feed
  simp only [mg_259, mg_260, mg_261, mg_262, mg_263, mg_264, mg_265, mg_266, mg_267, mg_268, mg_269, mg_270, mg_271, mg_272, mg_273, mg_274, mg_275, mg_276, mg_277, mg_278, mg_279, mg_280, fa_260, fa_261, fa_262, fa_263, fa_264, fa_265, fa_266, fa_267, fa_268, fa_269, fa_270, fa_271, fa_272, fa_273, fa_274, fa_275, fa_276, fa_277, fa_278, fa_279, fa_280, fs_260, fs_261, fs_262, fs_263, fs_264, fs_265, fs_266, fs_267, fs_268, fs_269, fs_270, fs_271, fs_272, fs_273, fs_274, fs_275, fs_276, fs_277, fs_278, fs_279, fs_280, fw_259, fz_259, bmap, mbind, mite, Option.map_some, Option.map_none, Option.bind_some, mgP, fr_M_fourBytes]
theorem fr_M_in {μ ρ : Mem}  {a0 : Int} {a1 : Int} {a2 : Int}  : M_in (mg μ ρ) a0 a1 a2 = M_in ρ a0 a1 a2 := by
  unfold M_in
  simp only [mg_259, mg_260, mg_261, mg_262, mg_263, mg_264, mg_265, mg_266, mg_267, mg_268, mg_269, mg_270, mg_271, mg_272, mg_273, mg_274, mg_275, mg_276, mg_277, mg_278, mg_279, mg_280, fa_260, fa_261, fa_262, fa_263, fa_264, fa_265, fa_266, fa_267, fa_268, fa_269, fa_270, fa_271, fa_272, fa_273, fa_274, fa_275, fa_276, fa_277, fa_278, fa_279, fa_280, fs_260, fs_261, fs_262, fs_263, fs_264, fs_265, fs_266, fs_267, fs_268, fs_269, fs_270, fs_271, fs_272, fs_273, fs_274, fs_275, fs_276, fs_277, fs_278, fs_279, fs_280, fw_259, fz_259, bmap, mbind, mite, Option.map_some, Option.map_none, Option.bind_some, mgP]
theorem fr_M_end {μ ρ : Mem}  {a1 : Int}  : M_end (mg μ ρ) a1 = (M_end ρ a1).map (mgP μ) := by
  unfold M_end
  simp only [mg_259, mg_260, mg_261, mg_262, mg_263, mg_264, mg_265, mg_266, mg_267, mg_268, mg_269, mg_270, mg_271, mg_272, mg_273, mg_274, mg_275, mg_276, mg_277, mg_278, mg_279, mg_280, fa_260, fa_261, fa_262, fa_263, fa_264, fa_265, fa_266, fa_267, fa_268, fa_269, fa_270, fa_271, fa_272, fa_273, fa_274, fa_275, fa_276, fa_277, fa_278, fa_279, fa_280, fs_260, fs_261, fs_262, fs_263, fs_264, fs_265, fs_266, fs_267, fs_268, fs_269, fs_270, fs_271, fs_272, fs_273, fs_274, fs_275, fs_276, fs_277, fs_278, fs_279, fs_280, fw_259, fz_259, bmap, mbind, mite, Option.map_some, Option.map_none, Option.bind_some, mgP, fr_M_in]
theorem fr_M_tape {μ ρ : Mem}  {a1 : Int}  : M_tape (mg μ ρ) a1 = M_tape ρ a1 := by
  unfold M_tape
  simp only [mg_259, mg_260, mg_261, mg_262, mg_263, mg_264, mg_265, mg_266, mg_267, mg_268, mg_269, mg_270, mg_271, mg_272, mg_273, mg_274, mg_275, mg_276, mg_277, mg_278, mg_279, mg_280, fa_260, fa_261, fa_262, fa_263, fa_264, fa_265, fa_266, fa_267, fa_268, fa_269, fa_270, fa_271, fa_272, fa_273, fa_274, fa_275, fa_276, fa_277, fa_278, fa_279, fa_280, fs_260, fs_261, fs_262, fs_263, fs_264, fs_265, fs_266, fs_267, fs_268, fs_269, fs_270, fs_271, fs_272, fs_273, fs_274, fs_275, fs_276, fs_277, fs_278, fs_279, fs_280, fw_259, fz_259, bmap, mbind, mite, Option.map_some, Option.map_none, Option.bind_some, mgP, fr_M_in]
theorem fr_M_fault {μ ρ : Mem}  {a1 : Int}  : M_fault (mg μ ρ) a1 = M_fault ρ a1 := by
  unfold M_fault
  simp only [mg_259, mg_260, mg_261, mg_262, mg_263, mg_264, mg_265, mg_266, mg_267, mg_268, mg_269, mg_270, mg_271, mg_272, mg_273, mg_274, mg_275, mg_276, mg_277, mg_278, mg_279, mg_280, fa_260, fa_261, fa_262, fa_263, fa_264, fa_265, fa_266, fa_267, fa_268, fa_269, fa_270, fa_271, fa_272, fa_273, fa_274, fa_275, fa_276, fa_277, fa_278, fa_279, fa_280, fs_260, fs_261, fs_262, fs_263, fs_264, fs_265, fs_266, fs_267, fs_268, fs_269, fs_270, fs_271, fs_272, fs_273, fs_274, fs_275, fs_276, fs_277, fs_278, fs_279, fs_280, fw_259, fz_259, bmap, mbind, mite, Option.map_some, Option.map_none, Option.bind_some, mgP]
theorem fr_M_byteAt {μ ρ : Mem}  {a1 : Int}  : M_byteAt (mg μ ρ) a1 = M_byteAt ρ a1 := by
  unfold M_byteAt
  simp only [mg_259, mg_260, mg_261, mg_262, mg_263, mg_264, mg_265, mg_266, mg_267, mg_268, mg_269, mg_270, mg_271, mg_272, mg_273, mg_274, mg_275, mg_276, mg_277, mg_278, mg_279, mg_280, fa_260, fa_261, fa_262, fa_263, fa_264, fa_265, fa_266, fa_267, fa_268, fa_269, fa_270, fa_271, fa_272, fa_273, fa_274, fa_275, fa_276, fa_277, fa_278, fa_279, fa_280, fs_260, fs_261, fs_262, fs_263, fs_264, fs_265, fs_266, fs_267, fs_268, fs_269, fs_270, fs_271, fs_272, fs_273, fs_274, fs_275, fs_276, fs_277, fs_278, fs_279, fs_280, fw_259, fz_259, bmap, mbind, mite, Option.map_some, Option.map_none, Option.bind_some, mgP]
theorem fr_M_isLetter {μ ρ : Mem}  {a0 : Int}  : M_isLetter (mg μ ρ) a0 = M_isLetter ρ a0 := by
  unfold M_isLetter
  simp only [mg_259, mg_260, mg_261, mg_262, mg_263, mg_264, mg_265, mg_266, mg_267, mg_268, mg_269, mg_270, mg_271, mg_272, mg_273, mg_274, mg_275, mg_276, mg_277, mg_278, mg_279, mg_280, fa_260, fa_261, fa_262, fa_263, fa_264, fa_265, fa_266, fa_267, fa_268, fa_269, fa_270, fa_271, fa_272, fa_273, fa_274, fa_275, fa_276, fa_277, fa_278, fa_279, fa_280, fs_260, fs_261, fs_262, fs_263, fs_264, fs_265, fs_266, fs_267, fs_268, fs_269, fs_270, fs_271, fs_272, fs_273, fs_274, fs_275, fs_276, fs_277, fs_278, fs_279, fs_280, fw_259, fz_259, bmap, mbind, mite, Option.map_some, Option.map_none, Option.bind_some, mgP, fr_M_in]
theorem fr_M_readWord_46 {μ ρ : Mem} {K4 J4 : Mem → Int → Int → Option (Mem)} {l3 : Int} {s0 : Int} (hK4 : ∀ (ρ : Mem) (l1 : Int) (l3 : Int), K4 (mg μ ρ) l1 l3 = (J4 ρ l1 l3).map (mg μ)) : M_readWord_46 K4 (mg μ ρ) l3 s0 = (M_readWord_46 J4 ρ l3 s0).map (mg μ) := by
  unfold M_readWord_46
  simp only [mg_259, mg_260, mg_261, mg_262, mg_263, mg_264, mg_265, mg_266, mg_267, mg_268, mg_269, mg_270, mg_271, mg_272, mg_273, mg_274, mg_275, mg_276, mg_277, mg_278, mg_279, mg_280, fa_260, fa_261, fa_262, fa_263, fa_264, fa_265, fa_266, fa_267, fa_268, fa_269, fa_270, fa_271, fa_272, fa_273, fa_274, fa_275, fa_276, fa_277, fa_278, fa_279, fa_280, fs_260, fs_261, fs_262, fs_263, fs_264, fs_265, fs_266, fs_267, fs_268, fs_269, fs_270, fs_271, fs_272, fs_273, fs_274, fs_275, fs_276, fs_277, fs_278, fs_279, fs_280, fw_259, fz_259, bmap, mbind, mite, Option.map_some, Option.map_none, Option.bind_some, mgP, hK4]
theorem fr_M_readWord_69_x {μ ρ : Mem}  {l1 : Int} {l3 : Int}  : ∀ (n : Nat) (l4 : Int) (l5 : Int), M_readWord_69 (mg μ ρ) l1 l3 n l4 l5 = (M_readWord_69 ρ l1 l3 n l4 l5).map (mg μ) := by
  intro n
  induction n with
  | zero => intro l4 l5; rfl
  | succ n ih =>
    intro l4 l5
    rw [M_readWord_69, M_readWord_69]
    simp only [mg_259, mg_260, mg_261, mg_262, mg_263, mg_264, mg_265, mg_266, mg_267, mg_268, mg_269, mg_270, mg_271, mg_272, mg_273, mg_274, mg_275, mg_276, mg_277, mg_278, mg_279, mg_280, fa_260, fa_261, fa_262, fa_263, fa_264, fa_265, fa_266, fa_267, fa_268, fa_269, fa_270, fa_271, fa_272, fa_273, fa_274, fa_275, fa_276, fa_277, fa_278, fa_279, fa_280, fs_260, fs_261, fs_262, fs_263, fs_264, fs_265, fs_266, fs_267, fs_268, fs_269, fs_270, fs_271, fs_272, fs_273, fs_274, fs_275, fs_276, fs_277, fs_278, fs_279, fs_280, fw_259, fz_259, bmap, mbind, mite, Option.map_some, Option.map_none, Option.bind_some, mgP, ih]
theorem fr_M_readWord_69 {μ ρ : Mem}  {l1 : Int} {l3 : Int}  {n : Nat} {l4 : Int} {l5 : Int} : M_readWord_69 (mg μ ρ) l1 l3 n l4 l5 = (M_readWord_69 ρ l1 l3 n l4 l5).map (mg μ) := fr_M_readWord_69_x  _ _ _
theorem fr_M_readWord_4_x {μ : Mem}    : ∀ (n : Nat) (ρ : Mem) (l1 : Int) (l3 : Int), M_readWord_4 n (mg μ ρ) l1 l3 = (M_readWord_4 n ρ l1 l3).map (mg μ) := by
  intro n
  induction n with
  | zero => intro ρ l1 l3; rfl
  | succ n ih =>
    intro ρ l1 l3
    rw [M_readWord_4, M_readWord_4]
    simp only [mg_259, mg_260, mg_261, mg_262, mg_263, mg_264, mg_265, mg_266, mg_267, mg_268, mg_269, mg_270, mg_271, mg_272, mg_273, mg_274, mg_275, mg_276, mg_277, mg_278, mg_279, mg_280, fa_260, fa_261, fa_262, fa_263, fa_264, fa_265, fa_266, fa_267, fa_268, fa_269, fa_270, fa_271, fa_272, fa_273, fa_274, fa_275, fa_276, fa_277, fa_278, fa_279, fa_280, fs_260, fs_261, fs_262, fs_263, fs_264, fs_265, fs_266, fs_267, fs_268, fs_269, fs_270, fs_271, fs_272, fs_273, fs_274, fs_275, fs_276, fs_277, fs_278, fs_279, fs_280, fw_259, fz_259, bmap, mbind, mite, Option.map_some, Option.map_none, Option.bind_some, mgP, ih, fr_M_byteAt, fr_M_isLetter, fr_M_readWord_46 ih, fr_M_readWord_69]
theorem fr_M_readWord_4 {μ ρ : Mem}    {n : Nat} {l1 : Int} {l3 : Int} : M_readWord_4 n (mg μ ρ) l1 l3 = (M_readWord_4 n ρ l1 l3).map (mg μ) := fr_M_readWord_4_x  _ _ _ _
theorem fr_M_readWord {μ ρ : Mem}    : M_readWord (mg μ ρ) = (M_readWord ρ).map (mg μ) := by
  unfold M_readWord
  simp only [mg_259, mg_260, mg_261, mg_262, mg_263, mg_264, mg_265, mg_266, mg_267, mg_268, mg_269, mg_270, mg_271, mg_272, mg_273, mg_274, mg_275, mg_276, mg_277, mg_278, mg_279, mg_280, fa_260, fa_261, fa_262, fa_263, fa_264, fa_265, fa_266, fa_267, fa_268, fa_269, fa_270, fa_271, fa_272, fa_273, fa_274, fa_275, fa_276, fa_277, fa_278, fa_279, fa_280, fs_260, fs_261, fs_262, fs_263, fs_264, fs_265, fs_266, fs_267, fs_268, fs_269, fs_270, fs_271, fs_272, fs_273, fs_274, fs_275, fs_276, fs_277, fs_278, fs_279, fs_280, fw_259, fz_259, bmap, mbind, mite, Option.map_some, Option.map_none, Option.bind_some, mgP, fr_M_readWord_4]
theorem fr_M_isDigit {μ ρ : Mem}  {a0 : Int}  : M_isDigit (mg μ ρ) a0 = M_isDigit ρ a0 := by
  unfold M_isDigit
  simp only [mg_259, mg_260, mg_261, mg_262, mg_263, mg_264, mg_265, mg_266, mg_267, mg_268, mg_269, mg_270, mg_271, mg_272, mg_273, mg_274, mg_275, mg_276, mg_277, mg_278, mg_279, mg_280, fa_260, fa_261, fa_262, fa_263, fa_264, fa_265, fa_266, fa_267, fa_268, fa_269, fa_270, fa_271, fa_272, fa_273, fa_274, fa_275, fa_276, fa_277, fa_278, fa_279, fa_280, fs_260, fs_261, fs_262, fs_263, fs_264, fs_265, fs_266, fs_267, fs_268, fs_269, fs_270, fs_271, fs_272, fs_273, fs_274, fs_275, fs_276, fs_277, fs_278, fs_279, fs_280, fw_259, fz_259, bmap, mbind, mite, Option.map_some, Option.map_none, Option.bind_some, mgP, fr_M_in]
theorem fr_M_readNumber_43 {μ ρ : Mem} {K4 J4 : Mem → Int → Int → Option (Mem)} {l2 : Int} {s0 : Int} (hK4 : ∀ (ρ : Mem) (l1 : Int) (l2 : Int), K4 (mg μ ρ) l1 l2 = (J4 ρ l1 l2).map (mg μ)) : M_readNumber_43 K4 (mg μ ρ) l2 s0 = (M_readNumber_43 J4 ρ l2 s0).map (mg μ) := by
  unfold M_readNumber_43
  simp only [mg_259, mg_260, mg_261, mg_262, mg_263, mg_264, mg_265, mg_266, mg_267, mg_268, mg_269, mg_270, mg_271, mg_272, mg_273, mg_274, mg_275, mg_276, mg_277, mg_278, mg_279, mg_280, fa_260, fa_261, fa_262, fa_263, fa_264, fa_265, fa_266, fa_267, fa_268, fa_269, fa_270, fa_271, fa_272, fa_273, fa_274, fa_275, fa_276, fa_277, fa_278, fa_279, fa_280, fs_260, fs_261, fs_262, fs_263, fs_264, fs_265, fs_266, fs_267, fs_268, fs_269, fs_270, fs_271, fs_272, fs_273, fs_274, fs_275, fs_276, fs_277, fs_278, fs_279, fs_280, fw_259, fz_259, bmap, mbind, mite, Option.map_some, Option.map_none, Option.bind_some, mgP, hK4]
theorem fr_M_readNumber_4_x {μ : Mem}    : ∀ (n : Nat) (ρ : Mem) (l1 : Int) (l2 : Int), M_readNumber_4 n (mg μ ρ) l1 l2 = (M_readNumber_4 n ρ l1 l2).map (mg μ) := by
  intro n
  induction n with
  | zero => intro ρ l1 l2; rfl
  | succ n ih =>
    intro ρ l1 l2
    rw [M_readNumber_4, M_readNumber_4]
    simp only [mg_259, mg_260, mg_261, mg_262, mg_263, mg_264, mg_265, mg_266, mg_267, mg_268, mg_269, mg_270, mg_271, mg_272, mg_273, mg_274, mg_275, mg_276, mg_277, mg_278, mg_279, mg_280, fa_260, fa_261, fa_262, fa_263, fa_264, fa_265, fa_266, fa_267, fa_268, fa_269, fa_270, fa_271, fa_272, fa_273, fa_274, fa_275, fa_276, fa_277, fa_278, fa_279, fa_280, fs_260, fs_261, fs_262, fs_263, fs_264, fs_265, fs_266, fs_267, fs_268, fs_269, fs_270, fs_271, fs_272, fs_273, fs_274, fs_275, fs_276, fs_277, fs_278, fs_279, fs_280, fw_259, fz_259, bmap, mbind, mite, Option.map_some, Option.map_none, Option.bind_some, mgP, ih, fr_M_byteAt, fr_M_isDigit, fr_M_readNumber_43 ih]
theorem fr_M_readNumber_4 {μ ρ : Mem}    {n : Nat} {l1 : Int} {l2 : Int} : M_readNumber_4 n (mg μ ρ) l1 l2 = (M_readNumber_4 n ρ l1 l2).map (mg μ) := fr_M_readNumber_4_x  _ _ _ _
theorem fr_M_readNumber {μ ρ : Mem}    : M_readNumber (mg μ ρ) = (M_readNumber ρ).map (mg μ) := by
  unfold M_readNumber
  simp only [mg_259, mg_260, mg_261, mg_262, mg_263, mg_264, mg_265, mg_266, mg_267, mg_268, mg_269, mg_270, mg_271, mg_272, mg_273, mg_274, mg_275, mg_276, mg_277, mg_278, mg_279, mg_280, fa_260, fa_261, fa_262, fa_263, fa_264, fa_265, fa_266, fa_267, fa_268, fa_269, fa_270, fa_271, fa_272, fa_273, fa_274, fa_275, fa_276, fa_277, fa_278, fa_279, fa_280, fs_260, fs_261, fs_262, fs_263, fs_264, fs_265, fs_266, fs_267, fs_268, fs_269, fs_270, fs_271, fs_272, fs_273, fs_274, fs_275, fs_276, fs_277, fs_278, fs_279, fs_280, fw_259, fz_259, bmap, mbind, mite, Option.map_some, Option.map_none, Option.bind_some, mgP, fr_M_readNumber_4]
theorem fr_M_read_26 {μ ρ : Mem} {K0 J0 : Mem → Option (Mem)}  (hK0 : ∀ (ρ : Mem) , K0 (mg μ ρ)  = (J0 ρ ).map (mg μ)) : M_read_26 K0 (mg μ ρ) = (M_read_26 J0 ρ).map (mg μ) := by
  unfold M_read_26
  simp only [mg_259, mg_260, mg_261, mg_262, mg_263, mg_264, mg_265, mg_266, mg_267, mg_268, mg_269, mg_270, mg_271, mg_272, mg_273, mg_274, mg_275, mg_276, mg_277, mg_278, mg_279, mg_280, fa_260, fa_261, fa_262, fa_263, fa_264, fa_265, fa_266, fa_267, fa_268, fa_269, fa_270, fa_271, fa_272, fa_273, fa_274, fa_275, fa_276, fa_277, fa_278, fa_279, fa_280, fs_260, fs_261, fs_262, fs_263, fs_264, fs_265, fs_266, fs_267, fs_268, fs_269, fs_270, fs_271, fs_272, fs_273, fs_274, fs_275, fs_276, fs_277, fs_278, fs_279, fs_280, fw_259, fz_259, bmap, mbind, mite, Option.map_some, Option.map_none, Option.bind_some, mgP, hK0]
theorem fr_M_read_166 {μ ρ : Mem}  {s1 : Int} {s2 : Int}  : M_read_166 (mg μ ρ) s1 s2 = (M_read_166 ρ s1 s2).map (mg μ) := by
  unfold M_read_166
  simp only [mg_259, mg_260, mg_261, mg_262, mg_263, mg_264, mg_265, mg_266, mg_267, mg_268, mg_269, mg_270, mg_271, mg_272, mg_273, mg_274, mg_275, mg_276, mg_277, mg_278, mg_279, mg_280, fa_260, fa_261, fa_262, fa_263, fa_264, fa_265, fa_266, fa_267, fa_268, fa_269, fa_270, fa_271, fa_272, fa_273, fa_274, fa_275, fa_276, fa_277, fa_278, fa_279, fa_280, fs_260, fs_261, fs_262, fs_263, fs_264, fs_265, fs_266, fs_267, fs_268, fs_269, fs_270, fs_271, fs_272, fs_273, fs_274, fs_275, fs_276, fs_277, fs_278, fs_279, fs_280, fw_259, fz_259, bmap, mbind, mite, Option.map_some, Option.map_none, Option.bind_some, mgP]
theorem fr_M_read_0_x {μ : Mem}    : ∀ (n : Nat) (ρ : Mem) , M_read_0 n (mg μ ρ) = (M_read_0 n ρ).map (mg μ) := by
  intro n
  induction n with
  | zero => intro ρ ; rfl
  | succ n ih =>
    intro ρ 
    rw [M_read_0, M_read_0]
    simp only [mg_259, mg_260, mg_261, mg_262, mg_263, mg_264, mg_265, mg_266, mg_267, mg_268, mg_269, mg_270, mg_271, mg_272, mg_273, mg_274, mg_275, mg_276, mg_277, mg_278, mg_279, mg_280, fa_260, fa_261, fa_262, fa_263, fa_264, fa_265, fa_266, fa_267, fa_268, fa_269, fa_270, fa_271, fa_272, fa_273, fa_274, fa_275, fa_276, fa_277, fa_278, fa_279, fa_280, fs_260, fs_261, fs_262, fs_263, fs_264, fs_265, fs_266, fs_267, fs_268, fs_269, fs_270, fs_271, fs_272, fs_273, fs_274, fs_275, fs_276, fs_277, fs_278, fs_279, fs_280, fw_259, fz_259, bmap, mbind, mite, Option.map_some, Option.map_none, Option.bind_some, mgP, ih, fr_M_byteAt, fr_M_isDigit, fr_M_isLetter, fr_M_readNumber, fr_M_readWord, fr_M_read_166, fr_M_read_26 ih]
theorem fr_M_read_0 {μ ρ : Mem}    {n : Nat}  : M_read_0 n (mg μ ρ) = (M_read_0 n ρ).map (mg μ) := fr_M_read_0_x  _ _
theorem fr_M_read {μ ρ : Mem}    : M_read (mg μ ρ) = (M_read ρ).map (mg μ) := by
  unfold M_read
  simp only [mg_259, mg_260, mg_261, mg_262, mg_263, mg_264, mg_265, mg_266, mg_267, mg_268, mg_269, mg_270, mg_271, mg_272, mg_273, mg_274, mg_275, mg_276, mg_277, mg_278, mg_279, mg_280, fa_260, fa_261, fa_262, fa_263, fa_264, fa_265, fa_266, fa_267, fa_268, fa_269, fa_270, fa_271, fa_272, fa_273, fa_274, fa_275, fa_276, fa_277, fa_278, fa_279, fa_280, fs_260, fs_261, fs_262, fs_263, fs_264, fs_265, fs_266, fs_267, fs_268, fs_269, fs_270, fs_271, fs_272, fs_273, fs_274, fs_275, fs_276, fs_277, fs_278, fs_279, fs_280, fw_259, fz_259, bmap, mbind, mite, Option.map_some, Option.map_none, Option.bind_some, mgP, fr_M_read_0]
theorem fr_M_fail {μ ρ : Mem}    : M_fail (mg μ ρ) = (M_fail ρ).map (mg μ) := by
  unfold M_fail
  simp only [mg_259, mg_260, mg_261, mg_262, mg_263, mg_264, mg_265, mg_266, mg_267, mg_268, mg_269, mg_270, mg_271, mg_272, mg_273, mg_274, mg_275, mg_276, mg_277, mg_278, mg_279, mg_280, fa_260, fa_261, fa_262, fa_263, fa_264, fa_265, fa_266, fa_267, fa_268, fa_269, fa_270, fa_271, fa_272, fa_273, fa_274, fa_275, fa_276, fa_277, fa_278, fa_279, fa_280, fs_260, fs_261, fs_262, fs_263, fs_264, fs_265, fs_266, fs_267, fs_268, fs_269, fs_270, fs_271, fs_272, fs_273, fs_274, fs_275, fs_276, fs_277, fs_278, fs_279, fs_280, fw_259, fz_259, bmap, mbind, mite, Option.map_some, Option.map_none, Option.bind_some, mgP]
theorem fr_M_next {μ ρ : Mem}    : M_next (mg μ ρ) = (M_next ρ).map (mg μ) := by
  unfold M_next
  simp only [mg_259, mg_260, mg_261, mg_262, mg_263, mg_264, mg_265, mg_266, mg_267, mg_268, mg_269, mg_270, mg_271, mg_272, mg_273, mg_274, mg_275, mg_276, mg_277, mg_278, mg_279, mg_280, fa_260, fa_261, fa_262, fa_263, fa_264, fa_265, fa_266, fa_267, fa_268, fa_269, fa_270, fa_271, fa_272, fa_273, fa_274, fa_275, fa_276, fa_277, fa_278, fa_279, fa_280, fs_260, fs_261, fs_262, fs_263, fs_264, fs_265, fs_266, fs_267, fs_268, fs_269, fs_270, fs_271, fs_272, fs_273, fs_274, fs_275, fs_276, fs_277, fs_278, fs_279, fs_280, fw_259, fz_259, bmap, mbind, mite, Option.map_some, Option.map_none, Option.bind_some, mgP, fr_M_fail, fr_M_read]
theorem fr_M_isNumber {μ ρ : Mem}    : M_isNumber (mg μ ρ) = M_isNumber ρ := by
  unfold M_isNumber
  simp only [mg_259, mg_260, mg_261, mg_262, mg_263, mg_264, mg_265, mg_266, mg_267, mg_268, mg_269, mg_270, mg_271, mg_272, mg_273, mg_274, mg_275, mg_276, mg_277, mg_278, mg_279, mg_280, fa_260, fa_261, fa_262, fa_263, fa_264, fa_265, fa_266, fa_267, fa_268, fa_269, fa_270, fa_271, fa_272, fa_273, fa_274, fa_275, fa_276, fa_277, fa_278, fa_279, fa_280, fs_260, fs_261, fs_262, fs_263, fs_264, fs_265, fs_266, fs_267, fs_268, fs_269, fs_270, fs_271, fs_272, fs_273, fs_274, fs_275, fs_276, fs_277, fs_278, fs_279, fs_280, fw_259, fz_259, bmap, mbind, mite, Option.map_some, Option.map_none, Option.bind_some, mgP]
theorem fr_M_need {μ ρ : Mem}  {a1 : Int}  : M_need (mg μ ρ) a1 = (M_need ρ a1).map (mg μ) := by
  unfold M_need
  simp only [mg_259, mg_260, mg_261, mg_262, mg_263, mg_264, mg_265, mg_266, mg_267, mg_268, mg_269, mg_270, mg_271, mg_272, mg_273, mg_274, mg_275, mg_276, mg_277, mg_278, mg_279, mg_280, fa_260, fa_261, fa_262, fa_263, fa_264, fa_265, fa_266, fa_267, fa_268, fa_269, fa_270, fa_271, fa_272, fa_273, fa_274, fa_275, fa_276, fa_277, fa_278, fa_279, fa_280, fs_260, fs_261, fs_262, fs_263, fs_264, fs_265, fs_266, fs_267, fs_268, fs_269, fs_270, fs_271, fs_272, fs_273, fs_274, fs_275, fs_276, fs_277, fs_278, fs_279, fs_280, fw_259, fz_259, bmap, mbind, mite, Option.map_some, Option.map_none, Option.bind_some, mgP, fr_M_fail, fr_M_next]
theorem fr_M_number {μ ρ : Mem}    : M_number (mg μ ρ) = (M_number ρ).map (mg μ) := by
  unfold M_number
  simp only [mg_259, mg_260, mg_261, mg_262, mg_263, mg_264, mg_265, mg_266, mg_267, mg_268, mg_269, mg_270, mg_271, mg_272, mg_273, mg_274, mg_275, mg_276, mg_277, mg_278, mg_279, mg_280, fa_260, fa_261, fa_262, fa_263, fa_264, fa_265, fa_266, fa_267, fa_268, fa_269, fa_270, fa_271, fa_272, fa_273, fa_274, fa_275, fa_276, fa_277, fa_278, fa_279, fa_280, fs_260, fs_261, fs_262, fs_263, fs_264, fs_265, fs_266, fs_267, fs_268, fs_269, fs_270, fs_271, fs_272, fs_273, fs_274, fs_275, fs_276, fs_277, fs_278, fs_279, fs_280, fw_259, fz_259, bmap, mbind, mite, Option.map_some, Option.map_none, Option.bind_some, mgP, fr_M_isNumber, fr_M_need]
theorem fr_M_isWordIn {μ ρ : Mem}  {a1 : Int} {a2 : Int}  : M_isWordIn (mg μ ρ) a1 a2 = M_isWordIn ρ a1 a2 := by
  unfold M_isWordIn
  simp only [mg_259, mg_260, mg_261, mg_262, mg_263, mg_264, mg_265, mg_266, mg_267, mg_268, mg_269, mg_270, mg_271, mg_272, mg_273, mg_274, mg_275, mg_276, mg_277, mg_278, mg_279, mg_280, fa_260, fa_261, fa_262, fa_263, fa_264, fa_265, fa_266, fa_267, fa_268, fa_269, fa_270, fa_271, fa_272, fa_273, fa_274, fa_275, fa_276, fa_277, fa_278, fa_279, fa_280, fs_260, fs_261, fs_262, fs_263, fs_264, fs_265, fs_266, fs_267, fs_268, fs_269, fs_270, fs_271, fs_272, fs_273, fs_274, fs_275, fs_276, fs_277, fs_278, fs_279, fs_280, fw_259, fz_259, bmap, mbind, mite, Option.map_some, Option.map_none, Option.bind_some, mgP, fr_M_in]
theorem fr_M_isWord {μ ρ : Mem}  {a1 : Int}  : M_isWord (mg μ ρ) a1 = M_isWord ρ a1 := by
  unfold M_isWord
  simp only [mg_259, mg_260, mg_261, mg_262, mg_263, mg_264, mg_265, mg_266, mg_267, mg_268, mg_269, mg_270, mg_271, mg_272, mg_273, mg_274, mg_275, mg_276, mg_277, mg_278, mg_279, mg_280, fa_260, fa_261, fa_262, fa_263, fa_264, fa_265, fa_266, fa_267, fa_268, fa_269, fa_270, fa_271, fa_272, fa_273, fa_274, fa_275, fa_276, fa_277, fa_278, fa_279, fa_280, fs_260, fs_261, fs_262, fs_263, fs_264, fs_265, fs_266, fs_267, fs_268, fs_269, fs_270, fs_271, fs_272, fs_273, fs_274, fs_275, fs_276, fs_277, fs_278, fs_279, fs_280, fw_259, fz_259, bmap, mbind, mite, Option.map_some, Option.map_none, Option.bind_some, mgP]
theorem fr_M_word {μ ρ : Mem}  {a1 : Int}  : M_word (mg μ ρ) a1 = (M_word ρ a1).map (mg μ) := by
  unfold M_word
  simp only [mg_259, mg_260, mg_261, mg_262, mg_263, mg_264, mg_265, mg_266, mg_267, mg_268, mg_269, mg_270, mg_271, mg_272, mg_273, mg_274, mg_275, mg_276, mg_277, mg_278, mg_279, mg_280, fa_260, fa_261, fa_262, fa_263, fa_264, fa_265, fa_266, fa_267, fa_268, fa_269, fa_270, fa_271, fa_272, fa_273, fa_274, fa_275, fa_276, fa_277, fa_278, fa_279, fa_280, fs_260, fs_261, fs_262, fs_263, fs_264, fs_265, fs_266, fs_267, fs_268, fs_269, fs_270, fs_271, fs_272, fs_273, fs_274, fs_275, fs_276, fs_277, fs_278, fs_279, fs_280, fw_259, fz_259, bmap, mbind, mite, Option.map_some, Option.map_none, Option.bind_some, mgP, fr_M_isWord, fr_M_need]
theorem fr_M_options_70 {μ ρ : Mem} {K3 J3 : Mem → Int → Option (Mem)} {l1 : Int} {l2 : Int} {l3 : Int} {l4 : Int} {l5 : Int} {s0 : Int} {s1 : Int} (hK3 : ∀ (ρ : Mem) (l4 : Int), K3 (mg μ ρ) l4 = (J3 ρ l4).map (mg μ)) : M_options_70 K3 (mg μ ρ) l1 l2 l3 l4 l5 s0 s1 = (M_options_70 J3 ρ l1 l2 l3 l4 l5 s0 s1).map (mg μ) := by
  unfold M_options_70
  simp only [mg_259, mg_260, mg_261, mg_262, mg_263, mg_264, mg_265, mg_266, mg_267, mg_268, mg_269, mg_270, mg_271, mg_272, mg_273, mg_274, mg_275, mg_276, mg_277, mg_278, mg_279, mg_280, fa_260, fa_261, fa_262, fa_263, fa_264, fa_265, fa_266, fa_267, fa_268, fa_269, fa_270, fa_271, fa_272, fa_273, fa_274, fa_275, fa_276, fa_277, fa_278, fa_279, fa_280, fs_260, fs_261, fs_262, fs_263, fs_264, fs_265, fs_266, fs_267, fs_268, fs_269, fs_270, fs_271, fs_272, fs_273, fs_274, fs_275, fs_276, fs_277, fs_278, fs_279, fs_280, fw_259, fz_259, bmap, mbind, mite, Option.map_some, Option.map_none, Option.bind_some, mgP, hK3, fr_M_fail, fr_M_next, fr_M_number]
theorem fr_M_options_3_x {μ : Mem}  {l1 : Int} {l2 : Int} {l3 : Int}  : ∀ (n : Nat) (ρ : Mem) (l4 : Int), M_options_3 l1 l2 l3 n (mg μ ρ) l4 = (M_options_3 l1 l2 l3 n ρ l4).map (mg μ) := by
  intro n
  induction n with
  | zero => intro ρ l4; rfl
  | succ n ih =>
    intro ρ l4
    rw [M_options_3, M_options_3]
    simp only [mg_259, mg_260, mg_261, mg_262, mg_263, mg_264, mg_265, mg_266, mg_267, mg_268, mg_269, mg_270, mg_271, mg_272, mg_273, mg_274, mg_275, mg_276, mg_277, mg_278, mg_279, mg_280, fa_260, fa_261, fa_262, fa_263, fa_264, fa_265, fa_266, fa_267, fa_268, fa_269, fa_270, fa_271, fa_272, fa_273, fa_274, fa_275, fa_276, fa_277, fa_278, fa_279, fa_280, fs_260, fs_261, fs_262, fs_263, fs_264, fs_265, fs_266, fs_267, fs_268, fs_269, fs_270, fs_271, fs_272, fs_273, fs_274, fs_275, fs_276, fs_277, fs_278, fs_279, fs_280, fw_259, fz_259, bmap, mbind, mite, Option.map_some, Option.map_none, Option.bind_some, mgP, ih, fr_M_isWordIn, fr_M_options_70 ih]
theorem fr_M_options_3 {μ ρ : Mem}  {l1 : Int} {l2 : Int} {l3 : Int}  {n : Nat} {l4 : Int} : M_options_3 l1 l2 l3 n (mg μ ρ) l4 = (M_options_3 l1 l2 l3 n ρ l4).map (mg μ) := fr_M_options_3_x  _ _ _
theorem fr_M_options {μ ρ : Mem}  {a1 : Int} {a2 : Int} {a3 : Int}  : M_options (mg μ ρ) a1 a2 a3 = (M_options ρ a1 a2 a3).map (mg μ) := by
  unfold M_options
  simp only [mg_259, mg_260, mg_261, mg_262, mg_263, mg_264, mg_265, mg_266, mg_267, mg_268, mg_269, mg_270, mg_271, mg_272, mg_273, mg_274, mg_275, mg_276, mg_277, mg_278, mg_279, mg_280, fa_260, fa_261, fa_262, fa_263, fa_264, fa_265, fa_266, fa_267, fa_268, fa_269, fa_270, fa_271, fa_272, fa_273, fa_274, fa_275, fa_276, fa_277, fa_278, fa_279, fa_280, fs_260, fs_261, fs_262, fs_263, fs_264, fs_265, fs_266, fs_267, fs_268, fs_269, fs_270, fs_271, fs_272, fs_273, fs_274, fs_275, fs_276, fs_277, fs_278, fs_279, fs_280, fw_259, fz_259, bmap, mbind, mite, Option.map_some, Option.map_none, Option.bind_some, mgP, fr_M_options_3]
theorem fr_M_term {μ ρ : Mem}    : M_term (mg μ ρ) = (M_term ρ).map (mg μ) := by
  unfold M_term
  simp only [mg_259, mg_260, mg_261, mg_262, mg_263, mg_264, mg_265, mg_266, mg_267, mg_268, mg_269, mg_270, mg_271, mg_272, mg_273, mg_274, mg_275, mg_276, mg_277, mg_278, mg_279, mg_280, fa_260, fa_261, fa_262, fa_263, fa_264, fa_265, fa_266, fa_267, fa_268, fa_269, fa_270, fa_271, fa_272, fa_273, fa_274, fa_275, fa_276, fa_277, fa_278, fa_279, fa_280, fs_260, fs_261, fs_262, fs_263, fs_264, fs_265, fs_266, fs_267, fs_268, fs_269, fs_270, fs_271, fs_272, fs_273, fs_274, fs_275, fs_276, fs_277, fs_278, fs_279, fs_280, fw_259, fz_259, bmap, mbind, mite, Option.map_some, Option.map_none, Option.bind_some, mgP, fr_M_isWord, fr_M_next, fr_M_number]
theorem fr_M_isSign {μ ρ : Mem}  {a1 : Int}  : M_isSign (mg μ ρ) a1 = M_isSign ρ a1 := by
  unfold M_isSign
  simp only [mg_259, mg_260, mg_261, mg_262, mg_263, mg_264, mg_265, mg_266, mg_267, mg_268, mg_269, mg_270, mg_271, mg_272, mg_273, mg_274, mg_275, mg_276, mg_277, mg_278, mg_279, mg_280, fa_260, fa_261, fa_262, fa_263, fa_264, fa_265, fa_266, fa_267, fa_268, fa_269, fa_270, fa_271, fa_272, fa_273, fa_274, fa_275, fa_276, fa_277, fa_278, fa_279, fa_280, fs_260, fs_261, fs_262, fs_263, fs_264, fs_265, fs_266, fs_267, fs_268, fs_269, fs_270, fs_271, fs_272, fs_273, fs_274, fs_275, fs_276, fs_277, fs_278, fs_279, fs_280, fw_259, fz_259, bmap, mbind, mite, Option.map_some, Option.map_none, Option.bind_some, mgP]
theorem fr_M_moreTerms_18 {μ ρ : Mem} {K0 J0 : Mem → Option (Mem)}  (hK0 : ∀ (ρ : Mem) , K0 (mg μ ρ)  = (J0 ρ ).map (mg μ)) : M_moreTerms_18 K0 (mg μ ρ) = (M_moreTerms_18 J0 ρ).map (mg μ) := by
  unfold M_moreTerms_18
  simp only [mg_259, mg_260, mg_261, mg_262, mg_263, mg_264, mg_265, mg_266, mg_267, mg_268, mg_269, mg_270, mg_271, mg_272, mg_273, mg_274, mg_275, mg_276, mg_277, mg_278, mg_279, mg_280, fa_260, fa_261, fa_262, fa_263, fa_264, fa_265, fa_266, fa_267, fa_268, fa_269, fa_270, fa_271, fa_272, fa_273, fa_274, fa_275, fa_276, fa_277, fa_278, fa_279, fa_280, fs_260, fs_261, fs_262, fs_263, fs_264, fs_265, fs_266, fs_267, fs_268, fs_269, fs_270, fs_271, fs_272, fs_273, fs_274, fs_275, fs_276, fs_277, fs_278, fs_279, fs_280, fw_259, fz_259, bmap, mbind, mite, Option.map_some, Option.map_none, Option.bind_some, mgP, hK0, fr_M_next, fr_M_term]
theorem fr_M_moreTerms_0_x {μ : Mem}    : ∀ (n : Nat) (ρ : Mem) , M_moreTerms_0 n (mg μ ρ) = (M_moreTerms_0 n ρ).map (mg μ) := by
  intro n
  induction n with
  | zero => intro ρ ; rfl
  | succ n ih =>
    intro ρ 
    rw [M_moreTerms_0, M_moreTerms_0]
    simp only [mg_259, mg_260, mg_261, mg_262, mg_263, mg_264, mg_265, mg_266, mg_267, mg_268, mg_269, mg_270, mg_271, mg_272, mg_273, mg_274, mg_275, mg_276, mg_277, mg_278, mg_279, mg_280, fa_260, fa_261, fa_262, fa_263, fa_264, fa_265, fa_266, fa_267, fa_268, fa_269, fa_270, fa_271, fa_272, fa_273, fa_274, fa_275, fa_276, fa_277, fa_278, fa_279, fa_280, fs_260, fs_261, fs_262, fs_263, fs_264, fs_265, fs_266, fs_267, fs_268, fs_269, fs_270, fs_271, fs_272, fs_273, fs_274, fs_275, fs_276, fs_277, fs_278, fs_279, fs_280, fw_259, fz_259, bmap, mbind, mite, Option.map_some, Option.map_none, Option.bind_some, mgP, ih, fr_M_isSign, fr_M_moreTerms_18 ih]
theorem fr_M_moreTerms_0 {μ ρ : Mem}    {n : Nat}  : M_moreTerms_0 n (mg μ ρ) = (M_moreTerms_0 n ρ).map (mg μ) := fr_M_moreTerms_0_x  _ _
theorem fr_M_moreTerms {μ ρ : Mem}    : M_moreTerms (mg μ ρ) = (M_moreTerms ρ).map (mg μ) := by
  unfold M_moreTerms
  simp only [mg_259, mg_260, mg_261, mg_262, mg_263, mg_264, mg_265, mg_266, mg_267, mg_268, mg_269, mg_270, mg_271, mg_272, mg_273, mg_274, mg_275, mg_276, mg_277, mg_278, mg_279, mg_280, fa_260, fa_261, fa_262, fa_263, fa_264, fa_265, fa_266, fa_267, fa_268, fa_269, fa_270, fa_271, fa_272, fa_273, fa_274, fa_275, fa_276, fa_277, fa_278, fa_279, fa_280, fs_260, fs_261, fs_262, fs_263, fs_264, fs_265, fs_266, fs_267, fs_268, fs_269, fs_270, fs_271, fs_272, fs_273, fs_274, fs_275, fs_276, fs_277, fs_278, fs_279, fs_280, fw_259, fz_259, bmap, mbind, mite, Option.map_some, Option.map_none, Option.bind_some, mgP, fr_M_moreTerms_0]
theorem fr_M_set {μ ρ : Mem}    : M_set (mg μ ρ) = (M_set ρ).map (mg μ) := by
  unfold M_set
  simp only [mg_259, mg_260, mg_261, mg_262, mg_263, mg_264, mg_265, mg_266, mg_267, mg_268, mg_269, mg_270, mg_271, mg_272, mg_273, mg_274, mg_275, mg_276, mg_277, mg_278, mg_279, mg_280, fa_260, fa_261, fa_262, fa_263, fa_264, fa_265, fa_266, fa_267, fa_268, fa_269, fa_270, fa_271, fa_272, fa_273, fa_274, fa_275, fa_276, fa_277, fa_278, fa_279, fa_280, fs_260, fs_261, fs_262, fs_263, fs_264, fs_265, fs_266, fs_267, fs_268, fs_269, fs_270, fs_271, fs_272, fs_273, fs_274, fs_275, fs_276, fs_277, fs_278, fs_279, fs_280, fw_259, fz_259, bmap, mbind, mite, Option.map_some, Option.map_none, Option.bind_some, mgP, fr_M_moreTerms, fr_M_term]
theorem fr_M_isWhat {μ ρ : Mem}    : M_isWhat (mg μ ρ) = M_isWhat ρ := by
  unfold M_isWhat
  simp only [mg_259, mg_260, mg_261, mg_262, mg_263, mg_264, mg_265, mg_266, mg_267, mg_268, mg_269, mg_270, mg_271, mg_272, mg_273, mg_274, mg_275, mg_276, mg_277, mg_278, mg_279, mg_280, fa_260, fa_261, fa_262, fa_263, fa_264, fa_265, fa_266, fa_267, fa_268, fa_269, fa_270, fa_271, fa_272, fa_273, fa_274, fa_275, fa_276, fa_277, fa_278, fa_279, fa_280, fs_260, fs_261, fs_262, fs_263, fs_264, fs_265, fs_266, fs_267, fs_268, fs_269, fs_270, fs_271, fs_272, fs_273, fs_274, fs_275, fs_276, fs_277, fs_278, fs_279, fs_280, fw_259, fz_259, bmap, mbind, mite, Option.map_some, Option.map_none, Option.bind_some, mgP, fr_M_isSign, fr_M_isWord, fr_M_isWordIn]
theorem fr_M_amount_43 {μ ρ : Mem}    : M_amount_43 (mg μ ρ) = (M_amount_43 ρ).map (mg μ) := by
  unfold M_amount_43
  simp only [mg_259, mg_260, mg_261, mg_262, mg_263, mg_264, mg_265, mg_266, mg_267, mg_268, mg_269, mg_270, mg_271, mg_272, mg_273, mg_274, mg_275, mg_276, mg_277, mg_278, mg_279, mg_280, fa_260, fa_261, fa_262, fa_263, fa_264, fa_265, fa_266, fa_267, fa_268, fa_269, fa_270, fa_271, fa_272, fa_273, fa_274, fa_275, fa_276, fa_277, fa_278, fa_279, fa_280, fs_260, fs_261, fs_262, fs_263, fs_264, fs_265, fs_266, fs_267, fs_268, fs_269, fs_270, fs_271, fs_272, fs_273, fs_274, fs_275, fs_276, fs_277, fs_278, fs_279, fs_280, fw_259, fz_259, bmap, mbind, mite, Option.map_some, Option.map_none, Option.bind_some, mgP, fr_M_next, fr_M_number]
theorem fr_M_amount {μ ρ : Mem}    : M_amount (mg μ ρ) = (M_amount ρ).map (mg μ) := by
  unfold M_amount
  simp only [mg_259, mg_260, mg_261, mg_262, mg_263, mg_264, mg_265, mg_266, mg_267, mg_268, mg_269, mg_270, mg_271, mg_272, mg_273, mg_274, mg_275, mg_276, mg_277, mg_278, mg_279, mg_280, fa_260, fa_261, fa_262, fa_263, fa_264, fa_265, fa_266, fa_267, fa_268, fa_269, fa_270, fa_271, fa_272, fa_273, fa_274, fa_275, fa_276, fa_277, fa_278, fa_279, fa_280, fs_260, fs_261, fs_262, fs_263, fs_264, fs_265, fs_266, fs_267, fs_268, fs_269, fs_270, fs_271, fs_272, fs_273, fs_274, fs_275, fs_276, fs_277, fs_278, fs_279, fs_280, fw_259, fz_259, bmap, mbind, mite, Option.map_some, Option.map_none, Option.bind_some, mgP, fr_M_amount_43, fr_M_isSign, fr_M_isWord, fr_M_next, fr_M_number]
theorem fr_M_whats_63 {μ ρ : Mem} {K11 J11 : Mem → Option (Mem)} {l2 : Int} (hK11 : ∀ (ρ : Mem) , K11 (mg μ ρ)  = (J11 ρ ).map (mg μ)) : M_whats_63 K11 (mg μ ρ) l2 = (M_whats_63 J11 ρ l2).map (mg μ) := by
  unfold M_whats_63
  simp only [mg_259, mg_260, mg_261, mg_262, mg_263, mg_264, mg_265, mg_266, mg_267, mg_268, mg_269, mg_270, mg_271, mg_272, mg_273, mg_274, mg_275, mg_276, mg_277, mg_278, mg_279, mg_280, fa_260, fa_261, fa_262, fa_263, fa_264, fa_265, fa_266, fa_267, fa_268, fa_269, fa_270, fa_271, fa_272, fa_273, fa_274, fa_275, fa_276, fa_277, fa_278, fa_279, fa_280, fs_260, fs_261, fs_262, fs_263, fs_264, fs_265, fs_266, fs_267, fs_268, fs_269, fs_270, fs_271, fs_272, fs_273, fs_274, fs_275, fs_276, fs_277, fs_278, fs_279, fs_280, fw_259, fz_259, bmap, mbind, mite, Option.map_some, Option.map_none, Option.bind_some, mgP, hK11, fr_M_number]
theorem fr_M_whats_43 {μ ρ : Mem} {K11 J11 : Mem → Option (Mem)} {s0 : Int} (hK11 : ∀ (ρ : Mem) , K11 (mg μ ρ)  = (J11 ρ ).map (mg μ)) : M_whats_43 K11 (mg μ ρ) s0 = (M_whats_43 J11 ρ s0).map (mg μ) := by
  unfold M_whats_43
  simp only [mg_259, mg_260, mg_261, mg_262, mg_263, mg_264, mg_265, mg_266, mg_267, mg_268, mg_269, mg_270, mg_271, mg_272, mg_273, mg_274, mg_275, mg_276, mg_277, mg_278, mg_279, mg_280, fa_260, fa_261, fa_262, fa_263, fa_264, fa_265, fa_266, fa_267, fa_268, fa_269, fa_270, fa_271, fa_272, fa_273, fa_274, fa_275, fa_276, fa_277, fa_278, fa_279, fa_280, fs_260, fs_261, fs_262, fs_263, fs_264, fs_265, fs_266, fs_267, fs_268, fs_269, fs_270, fs_271, fs_272, fs_273, fs_274, fs_275, fs_276, fs_277, fs_278, fs_279, fs_280, fw_259, fz_259, bmap, mbind, mite, Option.map_some, Option.map_none, Option.bind_some, mgP, hK11, fr_M_amount, fr_M_isWord, fr_M_next, fr_M_whats_63 hK11]
theorem fr_M_whats_11_x {μ : Mem}    : ∀ (n : Nat) (ρ : Mem) , M_whats_11 n (mg μ ρ) = (M_whats_11 n ρ).map (mg μ) := by
  intro n
  induction n with
  | zero => intro ρ ; rfl
  | succ n ih =>
    intro ρ 
    rw [M_whats_11, M_whats_11]
    simp only [mg_259, mg_260, mg_261, mg_262, mg_263, mg_264, mg_265, mg_266, mg_267, mg_268, mg_269, mg_270, mg_271, mg_272, mg_273, mg_274, mg_275, mg_276, mg_277, mg_278, mg_279, mg_280, fa_260, fa_261, fa_262, fa_263, fa_264, fa_265, fa_266, fa_267, fa_268, fa_269, fa_270, fa_271, fa_272, fa_273, fa_274, fa_275, fa_276, fa_277, fa_278, fa_279, fa_280, fs_260, fs_261, fs_262, fs_263, fs_264, fs_265, fs_266, fs_267, fs_268, fs_269, fs_270, fs_271, fs_272, fs_273, fs_274, fs_275, fs_276, fs_277, fs_278, fs_279, fs_280, fw_259, fz_259, bmap, mbind, mite, Option.map_some, Option.map_none, Option.bind_some, mgP, ih, fr_M_isSign, fr_M_isWhat, fr_M_isWordIn, fr_M_whats_43 ih]
theorem fr_M_whats_11 {μ ρ : Mem}    {n : Nat}  : M_whats_11 n (mg μ ρ) = (M_whats_11 n ρ).map (mg μ) := fr_M_whats_11_x  _ _
theorem fr_M_whats {μ ρ : Mem}    : M_whats (mg μ ρ) = (M_whats ρ).map (mg μ) := by
  unfold M_whats
  simp only [mg_259, mg_260, mg_261, mg_262, mg_263, mg_264, mg_265, mg_266, mg_267, mg_268, mg_269, mg_270, mg_271, mg_272, mg_273, mg_274, mg_275, mg_276, mg_277, mg_278, mg_279, mg_280, fa_260, fa_261, fa_262, fa_263, fa_264, fa_265, fa_266, fa_267, fa_268, fa_269, fa_270, fa_271, fa_272, fa_273, fa_274, fa_275, fa_276, fa_277, fa_278, fa_279, fa_280, fs_260, fs_261, fs_262, fs_263, fs_264, fs_265, fs_266, fs_267, fs_268, fs_269, fs_270, fs_271, fs_272, fs_273, fs_274, fs_275, fs_276, fs_277, fs_278, fs_279, fs_280, fw_259, fz_259, bmap, mbind, mite, Option.map_some, Option.map_none, Option.bind_some, mgP, fr_M_fail, fr_M_isWhat, fr_M_whats_11]
theorem fr_M_groupOrSet {μ ρ : Mem}    : M_groupOrSet (mg μ ρ) = (M_groupOrSet ρ).map (mg μ) := by
  unfold M_groupOrSet
  simp only [mg_259, mg_260, mg_261, mg_262, mg_263, mg_264, mg_265, mg_266, mg_267, mg_268, mg_269, mg_270, mg_271, mg_272, mg_273, mg_274, mg_275, mg_276, mg_277, mg_278, mg_279, mg_280, fa_260, fa_261, fa_262, fa_263, fa_264, fa_265, fa_266, fa_267, fa_268, fa_269, fa_270, fa_271, fa_272, fa_273, fa_274, fa_275, fa_276, fa_277, fa_278, fa_279, fa_280, fs_260, fs_261, fs_262, fs_263, fs_264, fs_265, fs_266, fs_267, fs_268, fs_269, fs_270, fs_271, fs_272, fs_273, fs_274, fs_275, fs_276, fs_277, fs_278, fs_279, fs_280, fw_259, fz_259, bmap, mbind, mite, Option.map_some, Option.map_none, Option.bind_some, mgP, fr_M_isSign, fr_M_moreTerms, fr_M_next, fr_M_number, fr_M_set, fr_M_whats]
theorem fr_M_sign {μ ρ : Mem}  {a1 : Int}  : M_sign (mg μ ρ) a1 = (M_sign ρ a1).map (mg μ) := by
  unfold M_sign
  simp only [mg_259, mg_260, mg_261, mg_262, mg_263, mg_264, mg_265, mg_266, mg_267, mg_268, mg_269, mg_270, mg_271, mg_272, mg_273, mg_274, mg_275, mg_276, mg_277, mg_278, mg_279, mg_280, fa_260, fa_261, fa_262, fa_263, fa_264, fa_265, fa_266, fa_267, fa_268, fa_269, fa_270, fa_271, fa_272, fa_273, fa_274, fa_275, fa_276, fa_277, fa_278, fa_279, fa_280, fs_260, fs_261, fs_262, fs_263, fs_264, fs_265, fs_266, fs_267, fs_268, fs_269, fs_270, fs_271, fs_272, fs_273, fs_274, fs_275, fs_276, fs_277, fs_278, fs_279, fs_280, fw_259, fz_259, bmap, mbind, mite, Option.map_some, Option.map_none, Option.bind_some, mgP, fr_M_isSign, fr_M_need]
theorem fr_M_levels_31 {μ ρ : Mem}    : M_levels_31 (mg μ ρ) = (M_levels_31 ρ).map (mg μ) := by
  unfold M_levels_31
  simp only [mg_259, mg_260, mg_261, mg_262, mg_263, mg_264, mg_265, mg_266, mg_267, mg_268, mg_269, mg_270, mg_271, mg_272, mg_273, mg_274, mg_275, mg_276, mg_277, mg_278, mg_279, mg_280, fa_260, fa_261, fa_262, fa_263, fa_264, fa_265, fa_266, fa_267, fa_268, fa_269, fa_270, fa_271, fa_272, fa_273, fa_274, fa_275, fa_276, fa_277, fa_278, fa_279, fa_280, fs_260, fs_261, fs_262, fs_263, fs_264, fs_265, fs_266, fs_267, fs_268, fs_269, fs_270, fs_271, fs_272, fs_273, fs_274, fs_275, fs_276, fs_277, fs_278, fs_279, fs_280, fw_259, fz_259, bmap, mbind, mite, Option.map_some, Option.map_none, Option.bind_some, mgP, fr_M_options]
theorem fr_M_levels {μ ρ : Mem}    : M_levels (mg μ ρ) = (M_levels ρ).map (mg μ) := by
  unfold M_levels
  simp only [mg_259, mg_260, mg_261, mg_262, mg_263, mg_264, mg_265, mg_266, mg_267, mg_268, mg_269, mg_270, mg_271, mg_272, mg_273, mg_274, mg_275, mg_276, mg_277, mg_278, mg_279, mg_280, fa_260, fa_261, fa_262, fa_263, fa_264, fa_265, fa_266, fa_267, fa_268, fa_269, fa_270, fa_271, fa_272, fa_273, fa_274, fa_275, fa_276, fa_277, fa_278, fa_279, fa_280, fs_260, fs_261, fs_262, fs_263, fs_264, fs_265, fs_266, fs_267, fs_268, fs_269, fs_270, fs_271, fs_272, fs_273, fs_274, fs_275, fs_276, fs_277, fs_278, fs_279, fs_280, fw_259, fz_259, bmap, mbind, mite, Option.map_some, Option.map_none, Option.bind_some, mgP, fr_M_fail, fr_M_isWord, fr_M_isWordIn, fr_M_levels_31, fr_M_next]
theorem fr_M_subs_20 {μ ρ : Mem}    : M_subs_20 (mg μ ρ) = (M_subs_20 ρ).map (mg μ) := by
  unfold M_subs_20
  simp only [mg_259, mg_260, mg_261, mg_262, mg_263, mg_264, mg_265, mg_266, mg_267, mg_268, mg_269, mg_270, mg_271, mg_272, mg_273, mg_274, mg_275, mg_276, mg_277, mg_278, mg_279, mg_280, fa_260, fa_261, fa_262, fa_263, fa_264, fa_265, fa_266, fa_267, fa_268, fa_269, fa_270, fa_271, fa_272, fa_273, fa_274, fa_275, fa_276, fa_277, fa_278, fa_279, fa_280, fs_260, fs_261, fs_262, fs_263, fs_264, fs_265, fs_266, fs_267, fs_268, fs_269, fs_270, fs_271, fs_272, fs_273, fs_274, fs_275, fs_276, fs_277, fs_278, fs_279, fs_280, fw_259, fz_259, bmap, mbind, mite, Option.map_some, Option.map_none, Option.bind_some, mgP, fr_M_next]
theorem fr_M_subs {μ ρ : Mem}    : M_subs (mg μ ρ) = (M_subs ρ).map (mg μ) := by
  unfold M_subs
  simp only [mg_259, mg_260, mg_261, mg_262, mg_263, mg_264, mg_265, mg_266, mg_267, mg_268, mg_269, mg_270, mg_271, mg_272, mg_273, mg_274, mg_275, mg_276, mg_277, mg_278, mg_279, mg_280, fa_260, fa_261, fa_262, fa_263, fa_264, fa_265, fa_266, fa_267, fa_268, fa_269, fa_270, fa_271, fa_272, fa_273, fa_274, fa_275, fa_276, fa_277, fa_278, fa_279, fa_280, fs_260, fs_261, fs_262, fs_263, fs_264, fs_265, fs_266, fs_267, fs_268, fs_269, fs_270, fs_271, fs_272, fs_273, fs_274, fs_275, fs_276, fs_277, fs_278, fs_279, fs_280, fw_259, fz_259, bmap, mbind, mite, Option.map_some, Option.map_none, Option.bind_some, mgP, fr_M_isWord, fr_M_isWordIn, fr_M_number, fr_M_set, fr_M_sign, fr_M_subs_20, fr_M_word]
theorem fr_M_parameter {μ ρ : Mem}    : M_parameter (mg μ ρ) = (M_parameter ρ).map (mg μ) := by
  unfold M_parameter
  simp only [mg_259, mg_260, mg_261, mg_262, mg_263, mg_264, mg_265, mg_266, mg_267, mg_268, mg_269, mg_270, mg_271, mg_272, mg_273, mg_274, mg_275, mg_276, mg_277, mg_278, mg_279, mg_280, fa_260, fa_261, fa_262, fa_263, fa_264, fa_265, fa_266, fa_267, fa_268, fa_269, fa_270, fa_271, fa_272, fa_273, fa_274, fa_275, fa_276, fa_277, fa_278, fa_279, fa_280, fs_260, fs_261, fs_262, fs_263, fs_264, fs_265, fs_266, fs_267, fs_268, fs_269, fs_270, fs_271, fs_272, fs_273, fs_274, fs_275, fs_276, fs_277, fs_278, fs_279, fs_280, fw_259, fz_259, bmap, mbind, mite, Option.map_some, Option.map_none, Option.bind_some, mgP, fr_M_isWordIn, fr_M_need]
theorem fr_M_waves {μ ρ : Mem}    : M_waves (mg μ ρ) = (M_waves ρ).map (mg μ) := by
  unfold M_waves
  simp only [mg_259, mg_260, mg_261, mg_262, mg_263, mg_264, mg_265, mg_266, mg_267, mg_268, mg_269, mg_270, mg_271, mg_272, mg_273, mg_274, mg_275, mg_276, mg_277, mg_278, mg_279, mg_280, fa_260, fa_261, fa_262, fa_263, fa_264, fa_265, fa_266, fa_267, fa_268, fa_269, fa_270, fa_271, fa_272, fa_273, fa_274, fa_275, fa_276, fa_277, fa_278, fa_279, fa_280, fs_260, fs_261, fs_262, fs_263, fs_264, fs_265, fs_266, fs_267, fs_268, fs_269, fs_270, fs_271, fs_272, fs_273, fs_274, fs_275, fs_276, fs_277, fs_278, fs_279, fs_280, fw_259, fz_259, bmap, mbind, mite, Option.map_some, Option.map_none, Option.bind_some, mgP, fr_M_isWord, fr_M_isWordIn, fr_M_need, fr_M_next, fr_M_number, fr_M_parameter, fr_M_set, fr_M_word]
theorem fr_M_times {μ ρ : Mem}    : M_times (mg μ ρ) = (M_times ρ).map (mg μ) := by
  unfold M_times
  simp only [mg_259, mg_260, mg_261, mg_262, mg_263, mg_264, mg_265, mg_266, mg_267, mg_268, mg_269, mg_270, mg_271, mg_272, mg_273, mg_274, mg_275, mg_276, mg_277, mg_278, mg_279, mg_280, fa_260, fa_261, fa_262, fa_263, fa_264, fa_265, fa_266, fa_267, fa_268, fa_269, fa_270, fa_271, fa_272, fa_273, fa_274, fa_275, fa_276, fa_277, fa_278, fa_279, fa_280, fs_260, fs_261, fs_262, fs_263, fs_264, fs_265, fs_266, fs_267, fs_268, fs_269, fs_270, fs_271, fs_272, fs_273, fs_274, fs_275, fs_276, fs_277, fs_278, fs_279, fs_280, fw_259, fz_259, bmap, mbind, mite, Option.map_some, Option.map_none, Option.bind_some, mgP, fr_M_options]
theorem fr_M_otherStatement_74 {μ ρ : Mem}  {s1 : Int}  : M_otherStatement_74 (mg μ ρ) s1 = (M_otherStatement_74 ρ s1).map (mg μ) := by
  unfold M_otherStatement_74
  simp only [mg_259, mg_260, mg_261, mg_262, mg_263, mg_264, mg_265, mg_266, mg_267, mg_268, mg_269, mg_270, mg_271, mg_272, mg_273, mg_274, mg_275, mg_276, mg_277, mg_278, mg_279, mg_280, fa_260, fa_261, fa_262, fa_263, fa_264, fa_265, fa_266, fa_267, fa_268, fa_269, fa_270, fa_271, fa_272, fa_273, fa_274, fa_275, fa_276, fa_277, fa_278, fa_279, fa_280, fs_260, fs_261, fs_262, fs_263, fs_264, fs_265, fs_266, fs_267, fs_268, fs_269, fs_270, fs_271, fs_272, fs_273, fs_274, fs_275, fs_276, fs_277, fs_278, fs_279, fs_280, fw_259, fz_259, bmap, mbind, mite, Option.map_some, Option.map_none, Option.bind_some, mgP, fr_M_need]
theorem fr_M_otherStatement {μ ρ : Mem}  {a1 : Int}  : M_otherStatement (mg μ ρ) a1 = (M_otherStatement ρ a1).map (mg μ) := by
  unfold M_otherStatement
  simp only [mg_259, mg_260, mg_261, mg_262, mg_263, mg_264, mg_265, mg_266, mg_267, mg_268, mg_269, mg_270, mg_271, mg_272, mg_273, mg_274, mg_275, mg_276, mg_277, mg_278, mg_279, mg_280, fa_260, fa_261, fa_262, fa_263, fa_264, fa_265, fa_266, fa_267, fa_268, fa_269, fa_270, fa_271, fa_272, fa_273, fa_274, fa_275, fa_276, fa_277, fa_278, fa_279, fa_280, fs_260, fs_261, fs_262, fs_263, fs_264, fs_265, fs_266, fs_267, fs_268, fs_269, fs_270, fs_271, fs_272, fs_273, fs_274, fs_275, fs_276, fs_277, fs_278, fs_279, fs_280, fw_259, fz_259, bmap, mbind, mite, Option.map_some, Option.map_none, Option.bind_some, mgP, fr_M_isNumber, fr_M_isWord, fr_M_next, fr_M_number, fr_M_otherStatement_74, fr_M_set, fr_M_sign, fr_M_whats, fr_M_word]
theorem fr_M_cueStatement_95 {μ ρ : Mem}    : M_cueStatement_95 (mg μ ρ) = (M_cueStatement_95 ρ).map (mg μ) := by
  unfold M_cueStatement_95
  simp only [mg_259, mg_260, mg_261, mg_262, mg_263, mg_264, mg_265, mg_266, mg_267, mg_268, mg_269, mg_270, mg_271, mg_272, mg_273, mg_274, mg_275, mg_276, mg_277, mg_278, mg_279, mg_280, fa_260, fa_261, fa_262, fa_263, fa_264, fa_265, fa_266, fa_267, fa_268, fa_269, fa_270, fa_271, fa_272, fa_273, fa_274, fa_275, fa_276, fa_277, fa_278, fa_279, fa_280, fs_260, fs_261, fs_262, fs_263, fs_264, fs_265, fs_266, fs_267, fs_268, fs_269, fs_270, fs_271, fs_272, fs_273, fs_274, fs_275, fs_276, fs_277, fs_278, fs_279, fs_280, fw_259, fz_259, bmap, mbind, mite, Option.map_some, Option.map_none, Option.bind_some, mgP, fr_M_times]
theorem fr_M_cueStatement_68 {μ ρ : Mem}  {l1 : Int}  : M_cueStatement_68 (mg μ ρ) l1 = (M_cueStatement_68 ρ l1).map (mg μ) := by
  unfold M_cueStatement_68
  simp only [mg_259, mg_260, mg_261, mg_262, mg_263, mg_264, mg_265, mg_266, mg_267, mg_268, mg_269, mg_270, mg_271, mg_272, mg_273, mg_274, mg_275, mg_276, mg_277, mg_278, mg_279, mg_280, fa_260, fa_261, fa_262, fa_263, fa_264, fa_265, fa_266, fa_267, fa_268, fa_269, fa_270, fa_271, fa_272, fa_273, fa_274, fa_275, fa_276, fa_277, fa_278, fa_279, fa_280, fs_260, fs_261, fs_262, fs_263, fs_264, fs_265, fs_266, fs_267, fs_268, fs_269, fs_270, fs_271, fs_272, fs_273, fs_274, fs_275, fs_276, fs_277, fs_278, fs_279, fs_280, fw_259, fz_259, bmap, mbind, mite, Option.map_some, Option.map_none, Option.bind_some, mgP, fr_M_cueStatement_95, fr_M_isWord, fr_M_next, fr_M_number]
theorem fr_M_cueStatement_102 {μ ρ : Mem}    : M_cueStatement_102 (mg μ ρ) = (M_cueStatement_102 ρ).map (mg μ) := by
  unfold M_cueStatement_102
  simp only [mg_259, mg_260, mg_261, mg_262, mg_263, mg_264, mg_265, mg_266, mg_267, mg_268, mg_269, mg_270, mg_271, mg_272, mg_273, mg_274, mg_275, mg_276, mg_277, mg_278, mg_279, mg_280, fa_260, fa_261, fa_262, fa_263, fa_264, fa_265, fa_266, fa_267, fa_268, fa_269, fa_270, fa_271, fa_272, fa_273, fa_274, fa_275, fa_276, fa_277, fa_278, fa_279, fa_280, fs_260, fs_261, fs_262, fs_263, fs_264, fs_265, fs_266, fs_267, fs_268, fs_269, fs_270, fs_271, fs_272, fs_273, fs_274, fs_275, fs_276, fs_277, fs_278, fs_279, fs_280, fw_259, fz_259, bmap, mbind, mite, Option.map_some, Option.map_none, Option.bind_some, mgP, fr_M_next]
theorem fr_M_cueStatement_109 {μ ρ : Mem}    : M_cueStatement_109 (mg μ ρ) = (M_cueStatement_109 ρ).map (mg μ) := by
  unfold M_cueStatement_109
  simp only [mg_259, mg_260, mg_261, mg_262, mg_263, mg_264, mg_265, mg_266, mg_267, mg_268, mg_269, mg_270, mg_271, mg_272, mg_273, mg_274, mg_275, mg_276, mg_277, mg_278, mg_279, mg_280, fa_260, fa_261, fa_262, fa_263, fa_264, fa_265, fa_266, fa_267, fa_268, fa_269, fa_270, fa_271, fa_272, fa_273, fa_274, fa_275, fa_276, fa_277, fa_278, fa_279, fa_280, fs_260, fs_261, fs_262, fs_263, fs_264, fs_265, fs_266, fs_267, fs_268, fs_269, fs_270, fs_271, fs_272, fs_273, fs_274, fs_275, fs_276, fs_277, fs_278, fs_279, fs_280, fw_259, fz_259, bmap, mbind, mite, Option.map_some, Option.map_none, Option.bind_some, mgP, fr_M_next, fr_M_number]
theorem fr_M_cueStatement_141 {μ ρ : Mem}  {l1 : Int}  : M_cueStatement_141 (mg μ ρ) l1 = (M_cueStatement_141 ρ l1).map (mg μ) := by
  unfold M_cueStatement_141
  simp only [mg_259, mg_260, mg_261, mg_262, mg_263, mg_264, mg_265, mg_266, mg_267, mg_268, mg_269, mg_270, mg_271, mg_272, mg_273, mg_274, mg_275, mg_276, mg_277, mg_278, mg_279, mg_280, fa_260, fa_261, fa_262, fa_263, fa_264, fa_265, fa_266, fa_267, fa_268, fa_269, fa_270, fa_271, fa_272, fa_273, fa_274, fa_275, fa_276, fa_277, fa_278, fa_279, fa_280, fs_260, fs_261, fs_262, fs_263, fs_264, fs_265, fs_266, fs_267, fs_268, fs_269, fs_270, fs_271, fs_272, fs_273, fs_274, fs_275, fs_276, fs_277, fs_278, fs_279, fs_280, fw_259, fz_259, bmap, mbind, mite, Option.map_some, Option.map_none, Option.bind_some, mgP, fr_M_otherStatement]
theorem fr_M_cueStatement {μ ρ : Mem}  {a1 : Int}  : M_cueStatement (mg μ ρ) a1 = (M_cueStatement ρ a1).map (mg μ) := by
  unfold M_cueStatement
  simp only [mg_259, mg_260, mg_261, mg_262, mg_263, mg_264, mg_265, mg_266, mg_267, mg_268, mg_269, mg_270, mg_271, mg_272, mg_273, mg_274, mg_275, mg_276, mg_277, mg_278, mg_279, mg_280, fa_260, fa_261, fa_262, fa_263, fa_264, fa_265, fa_266, fa_267, fa_268, fa_269, fa_270, fa_271, fa_272, fa_273, fa_274, fa_275, fa_276, fa_277, fa_278, fa_279, fa_280, fs_260, fs_261, fs_262, fs_263, fs_264, fs_265, fs_266, fs_267, fs_268, fs_269, fs_270, fs_271, fs_272, fs_273, fs_274, fs_275, fs_276, fs_277, fs_278, fs_279, fs_280, fw_259, fz_259, bmap, mbind, mite, Option.map_some, Option.map_none, Option.bind_some, mgP, fr_M_cueStatement_102, fr_M_cueStatement_109, fr_M_cueStatement_141, fr_M_cueStatement_68, fr_M_next, fr_M_number, fr_M_word]
theorem fr_M_statement_220 {μ ρ : Mem}    : M_statement_220 (mg μ ρ) = (M_statement_220 ρ).map (mg μ) := by
  unfold M_statement_220
  simp only [mg_259, mg_260, mg_261, mg_262, mg_263, mg_264, mg_265, mg_266, mg_267, mg_268, mg_269, mg_270, mg_271, mg_272, mg_273, mg_274, mg_275, mg_276, mg_277, mg_278, mg_279, mg_280, fa_260, fa_261, fa_262, fa_263, fa_264, fa_265, fa_266, fa_267, fa_268, fa_269, fa_270, fa_271, fa_272, fa_273, fa_274, fa_275, fa_276, fa_277, fa_278, fa_279, fa_280, fs_260, fs_261, fs_262, fs_263, fs_264, fs_265, fs_266, fs_267, fs_268, fs_269, fs_270, fs_271, fs_272, fs_273, fs_274, fs_275, fs_276, fs_277, fs_278, fs_279, fs_280, fw_259, fz_259, bmap, mbind, mite, Option.map_some, Option.map_none, Option.bind_some, mgP, fr_M_fail, fr_M_isSign]
theorem fr_M_statement_215 {μ ρ : Mem}  {l1 : Int}  : M_statement_215 (mg μ ρ) l1 = (M_statement_215 ρ l1).map (mg μ) := by
  unfold M_statement_215
  simp only [mg_259, mg_260, mg_261, mg_262, mg_263, mg_264, mg_265, mg_266, mg_267, mg_268, mg_269, mg_270, mg_271, mg_272, mg_273, mg_274, mg_275, mg_276, mg_277, mg_278, mg_279, mg_280, fa_260, fa_261, fa_262, fa_263, fa_264, fa_265, fa_266, fa_267, fa_268, fa_269, fa_270, fa_271, fa_272, fa_273, fa_274, fa_275, fa_276, fa_277, fa_278, fa_279, fa_280, fs_260, fs_261, fs_262, fs_263, fs_264, fs_265, fs_266, fs_267, fs_268, fs_269, fs_270, fs_271, fs_272, fs_273, fs_274, fs_275, fs_276, fs_277, fs_278, fs_279, fs_280, fw_259, fz_259, bmap, mbind, mite, Option.map_some, Option.map_none, Option.bind_some, mgP, fr_M_cueStatement, fr_M_statement_220]
theorem fr_M_statement_20 {μ ρ : Mem}  {s0 : Int}  : M_statement_20 (mg μ ρ) s0 = (M_statement_20 ρ s0).map (mg μ) := by
  unfold M_statement_20
  simp only [mg_259, mg_260, mg_261, mg_262, mg_263, mg_264, mg_265, mg_266, mg_267, mg_268, mg_269, mg_270, mg_271, mg_272, mg_273, mg_274, mg_275, mg_276, mg_277, mg_278, mg_279, mg_280, fa_260, fa_261, fa_262, fa_263, fa_264, fa_265, fa_266, fa_267, fa_268, fa_269, fa_270, fa_271, fa_272, fa_273, fa_274, fa_275, fa_276, fa_277, fa_278, fa_279, fa_280, fs_260, fs_261, fs_262, fs_263, fs_264, fs_265, fs_266, fs_267, fs_268, fs_269, fs_270, fs_271, fs_272, fs_273, fs_274, fs_275, fs_276, fs_277, fs_278, fs_279, fs_280, fw_259, fz_259, bmap, mbind, mite, Option.map_some, Option.map_none, Option.bind_some, mgP, fr_M_groupOrSet, fr_M_isWordIn, fr_M_levels, fr_M_need, fr_M_next, fr_M_number, fr_M_options, fr_M_set, fr_M_sign, fr_M_statement_215, fr_M_statement_220, fr_M_subs, fr_M_waves, fr_M_word]
theorem fr_M_statement {μ ρ : Mem}    : M_statement (mg μ ρ) = (M_statement ρ).map (mg μ) := by
  unfold M_statement
  simp only [mg_259, mg_260, mg_261, mg_262, mg_263, mg_264, mg_265, mg_266, mg_267, mg_268, mg_269, mg_270, mg_271, mg_272, mg_273, mg_274, mg_275, mg_276, mg_277, mg_278, mg_279, mg_280, fa_260, fa_261, fa_262, fa_263, fa_264, fa_265, fa_266, fa_267, fa_268, fa_269, fa_270, fa_271, fa_272, fa_273, fa_274, fa_275, fa_276, fa_277, fa_278, fa_279, fa_280, fs_260, fs_261, fs_262, fs_263, fs_264, fs_265, fs_266, fs_267, fs_268, fs_269, fs_270, fs_271, fs_272, fs_273, fs_274, fs_275, fs_276, fs_277, fs_278, fs_279, fs_280, fw_259, fz_259, bmap, mbind, mite, Option.map_some, Option.map_none, Option.bind_some, mgP, fr_M_statement_20]
theorem fr_M_refuse {μ ρ : Mem}  {a1 : Int} {a2 : Int} {a3 : Int}  : M_refuse (mg μ ρ) a1 a2 a3 = (M_refuse ρ a1 a2 a3).map (mg μ) := by
  unfold M_refuse
  simp only [mg_259, mg_260, mg_261, mg_262, mg_263, mg_264, mg_265, mg_266, mg_267, mg_268, mg_269, mg_270, mg_271, mg_272, mg_273, mg_274, mg_275, mg_276, mg_277, mg_278, mg_279, mg_280, fa_260, fa_261, fa_262, fa_263, fa_264, fa_265, fa_266, fa_267, fa_268, fa_269, fa_270, fa_271, fa_272, fa_273, fa_274, fa_275, fa_276, fa_277, fa_278, fa_279, fa_280, fs_260, fs_261, fs_262, fs_263, fs_264, fs_265, fs_266, fs_267, fs_268, fs_269, fs_270, fs_271, fs_272, fs_273, fs_274, fs_275, fs_276, fs_277, fs_278, fs_279, fs_280, fw_259, fz_259, bmap, mbind, mite, Option.map_some, Option.map_none, Option.bind_some, mgP]
theorem fr_M_bounds_20 {μ ρ : Mem}  {l1 : Int} {s1 : Int}  : M_bounds_20 (mg μ ρ) l1 s1 = (M_bounds_20 ρ l1 s1).map (mg μ) := by
  unfold M_bounds_20
  simp only [mg_259, mg_260, mg_261, mg_262, mg_263, mg_264, mg_265, mg_266, mg_267, mg_268, mg_269, mg_270, mg_271, mg_272, mg_273, mg_274, mg_275, mg_276, mg_277, mg_278, mg_279, mg_280, fa_260, fa_261, fa_262, fa_263, fa_264, fa_265, fa_266, fa_267, fa_268, fa_269, fa_270, fa_271, fa_272, fa_273, fa_274, fa_275, fa_276, fa_277, fa_278, fa_279, fa_280, fs_260, fs_261, fs_262, fs_263, fs_264, fs_265, fs_266, fs_267, fs_268, fs_269, fs_270, fs_271, fs_272, fs_273, fs_274, fs_275, fs_276, fs_277, fs_278, fs_279, fs_280, fw_259, fz_259, bmap, mbind, mite, Option.map_some, Option.map_none, Option.bind_some, mgP, fr_M_refuse]
theorem fr_M_bounds {μ ρ : Mem}  {a1 : Int} {a2 : Int} {a3 : Int}  : M_bounds (mg μ ρ) a1 a2 a3 = (M_bounds ρ a1 a2 a3).map (mg μ) := by
  unfold M_bounds
  simp only [mg_259, mg_260, mg_261, mg_262, mg_263, mg_264, mg_265, mg_266, mg_267, mg_268, mg_269, mg_270, mg_271, mg_272, mg_273, mg_274, mg_275, mg_276, mg_277, mg_278, mg_279, mg_280, fa_260, fa_261, fa_262, fa_263, fa_264, fa_265, fa_266, fa_267, fa_268, fa_269, fa_270, fa_271, fa_272, fa_273, fa_274, fa_275, fa_276, fa_277, fa_278, fa_279, fa_280, fs_260, fs_261, fs_262, fs_263, fs_264, fs_265, fs_266, fs_267, fs_268, fs_269, fs_270, fs_271, fs_272, fs_273, fs_274, fs_275, fs_276, fs_277, fs_278, fs_279, fs_280, fw_259, fz_259, bmap, mbind, mite, Option.map_some, Option.map_none, Option.bind_some, mgP, fr_M_bounds_20, fr_M_in]
theorem fr_M_isPatched {μ ρ : Mem}  {a1 : Int}  : M_isPatched (mg μ ρ) a1 = M_isPatched ρ a1 := by
  unfold M_isPatched
  simp only [mg_259, mg_260, mg_261, mg_262, mg_263, mg_264, mg_265, mg_266, mg_267, mg_268, mg_269, mg_270, mg_271, mg_272, mg_273, mg_274, mg_275, mg_276, mg_277, mg_278, mg_279, mg_280, fa_260, fa_261, fa_262, fa_263, fa_264, fa_265, fa_266, fa_267, fa_268, fa_269, fa_270, fa_271, fa_272, fa_273, fa_274, fa_275, fa_276, fa_277, fa_278, fa_279, fa_280, fs_260, fs_261, fs_262, fs_263, fs_264, fs_265, fs_266, fs_267, fs_268, fs_269, fs_270, fs_271, fs_272, fs_273, fs_274, fs_275, fs_276, fs_277, fs_278, fs_279, fs_280, fw_259, fz_259, bmap, mbind, mite, Option.map_some, Option.map_none, Option.bind_some, mgP]
theorem fr_M_width_9_x {μ ρ : Mem}  {l1 : Int}  : ∀ (n : Nat) (l2 : Int) (l3 : Int), M_width_9 (mg μ ρ) l1 n l2 l3 = M_width_9 ρ l1 n l2 l3 := by
  intro n
  induction n with
  | zero => intro l2 l3; rfl
  | succ n ih =>
    intro l2 l3
    rw [M_width_9, M_width_9]
    simp only [mg_259, mg_260, mg_261, mg_262, mg_263, mg_264, mg_265, mg_266, mg_267, mg_268, mg_269, mg_270, mg_271, mg_272, mg_273, mg_274, mg_275, mg_276, mg_277, mg_278, mg_279, mg_280, fa_260, fa_261, fa_262, fa_263, fa_264, fa_265, fa_266, fa_267, fa_268, fa_269, fa_270, fa_271, fa_272, fa_273, fa_274, fa_275, fa_276, fa_277, fa_278, fa_279, fa_280, fs_260, fs_261, fs_262, fs_263, fs_264, fs_265, fs_266, fs_267, fs_268, fs_269, fs_270, fs_271, fs_272, fs_273, fs_274, fs_275, fs_276, fs_277, fs_278, fs_279, fs_280, fw_259, fz_259, bmap, mbind, mite, Option.map_some, Option.map_none, Option.bind_some, mgP, ih]
theorem fr_M_width_9 {μ ρ : Mem}  {l1 : Int}  {n : Nat} {l2 : Int} {l3 : Int} : M_width_9 (mg μ ρ) l1 n l2 l3 = M_width_9 ρ l1 n l2 l3 := fr_M_width_9_x  _ _ _
theorem fr_M_width {μ ρ : Mem}  {a1 : Int}  : M_width (mg μ ρ) a1 = M_width ρ a1 := by
  unfold M_width
  simp only [mg_259, mg_260, mg_261, mg_262, mg_263, mg_264, mg_265, mg_266, mg_267, mg_268, mg_269, mg_270, mg_271, mg_272, mg_273, mg_274, mg_275, mg_276, mg_277, mg_278, mg_279, mg_280, fa_260, fa_261, fa_262, fa_263, fa_264, fa_265, fa_266, fa_267, fa_268, fa_269, fa_270, fa_271, fa_272, fa_273, fa_274, fa_275, fa_276, fa_277, fa_278, fa_279, fa_280, fs_260, fs_261, fs_262, fs_263, fs_264, fs_265, fs_266, fs_267, fs_268, fs_269, fs_270, fs_271, fs_272, fs_273, fs_274, fs_275, fs_276, fs_277, fs_278, fs_279, fs_280, fw_259, fz_259, bmap, mbind, mite, Option.map_some, Option.map_none, Option.bind_some, mgP, fr_M_width_9]
theorem fr_M_isSignAt {μ ρ : Mem}  {a1 : Int} {a2 : Int}  : M_isSignAt (mg μ ρ) a1 a2 = M_isSignAt ρ a1 a2 := by
  unfold M_isSignAt
  simp only [mg_259, mg_260, mg_261, mg_262, mg_263, mg_264, mg_265, mg_266, mg_267, mg_268, mg_269, mg_270, mg_271, mg_272, mg_273, mg_274, mg_275, mg_276, mg_277, mg_278, mg_279, mg_280, fa_260, fa_261, fa_262, fa_263, fa_264, fa_265, fa_266, fa_267, fa_268, fa_269, fa_270, fa_271, fa_272, fa_273, fa_274, fa_275, fa_276, fa_277, fa_278, fa_279, fa_280, fs_260, fs_261, fs_262, fs_263, fs_264, fs_265, fs_266, fs_267, fs_268, fs_269, fs_270, fs_271, fs_272, fs_273, fs_274, fs_275, fs_276, fs_277, fs_278, fs_279, fs_280, fw_259, fz_259, bmap, mbind, mite, Option.map_some, Option.map_none, Option.bind_some, mgP]
theorem fr_M_isWordAt {μ ρ : Mem}  {a1 : Int} {a2 : Int}  : M_isWordAt (mg μ ρ) a1 a2 = M_isWordAt ρ a1 a2 := by
  unfold M_isWordAt
  simp only [mg_259, mg_260, mg_261, mg_262, mg_263, mg_264, mg_265, mg_266, mg_267, mg_268, mg_269, mg_270, mg_271, mg_272, mg_273, mg_274, mg_275, mg_276, mg_277, mg_278, mg_279, mg_280, fa_260, fa_261, fa_262, fa_263, fa_264, fa_265, fa_266, fa_267, fa_268, fa_269, fa_270, fa_271, fa_272, fa_273, fa_274, fa_275, fa_276, fa_277, fa_278, fa_279, fa_280, fs_260, fs_261, fs_262, fs_263, fs_264, fs_265, fs_266, fs_267, fs_268, fs_269, fs_270, fs_271, fs_272, fs_273, fs_274, fs_275, fs_276, fs_277, fs_278, fs_279, fs_280, fw_259, fz_259, bmap, mbind, mite, Option.map_some, Option.map_none, Option.bind_some, mgP]
theorem fr_M_checkPatch_222 {μ ρ : Mem} {K189 J189 : Mem → Int → Option (Mem)} {l4 : Int} (hK189 : ∀ (ρ : Mem) (l4 : Int), K189 (mg μ ρ) l4 = (J189 ρ l4).map (mg μ)) : M_checkPatch_222 K189 (mg μ ρ) l4 = (M_checkPatch_222 J189 ρ l4).map (mg μ) := by
  unfold M_checkPatch_222
  simp only [mg_259, mg_260, mg_261, mg_262, mg_263, mg_264, mg_265, mg_266, mg_267, mg_268, mg_269, mg_270, mg_271, mg_272, mg_273, mg_274, mg_275, mg_276, mg_277, mg_278, mg_279, mg_280, fa_260, fa_261, fa_262, fa_263, fa_264, fa_265, fa_266, fa_267, fa_268, fa_269, fa_270, fa_271, fa_272, fa_273, fa_274, fa_275, fa_276, fa_277, fa_278, fa_279, fa_280, fs_260, fs_261, fs_262, fs_263, fs_264, fs_265, fs_266, fs_267, fs_268, fs_269, fs_270, fs_271, fs_272, fs_273, fs_274, fs_275, fs_276, fs_277, fs_278, fs_279, fs_280, fw_259, fz_259, bmap, mbind, mite, Option.map_some, Option.map_none, Option.bind_some, mgP, hK189, fr_M_bounds, fr_M_isWordAt]
theorem fr_M_checkPatch_189_x {μ : Mem}    : ∀ (n : Nat) (ρ : Mem) (l4 : Int), M_checkPatch_189 n (mg μ ρ) l4 = (M_checkPatch_189 n ρ l4).map (mg μ) := by
  intro n
  induction n with
  | zero => intro ρ l4; rfl
  | succ n ih =>
    intro ρ l4
    rw [M_checkPatch_189, M_checkPatch_189]
    simp only [mg_259, mg_260, mg_261, mg_262, mg_263, mg_264, mg_265, mg_266, mg_267, mg_268, mg_269, mg_270, mg_271, mg_272, mg_273, mg_274, mg_275, mg_276, mg_277, mg_278, mg_279, mg_280, fa_260, fa_261, fa_262, fa_263, fa_264, fa_265, fa_266, fa_267, fa_268, fa_269, fa_270, fa_271, fa_272, fa_273, fa_274, fa_275, fa_276, fa_277, fa_278, fa_279, fa_280, fs_260, fs_261, fs_262, fs_263, fs_264, fs_265, fs_266, fs_267, fs_268, fs_269, fs_270, fs_271, fs_272, fs_273, fs_274, fs_275, fs_276, fs_277, fs_278, fs_279, fs_280, fw_259, fz_259, bmap, mbind, mite, Option.map_some, Option.map_none, Option.bind_some, mgP, ih, fr_M_bounds, fr_M_checkPatch_222 ih, fr_M_isSignAt, fr_M_isWordAt]
theorem fr_M_checkPatch_189 {μ ρ : Mem}    {n : Nat} {l4 : Int} : M_checkPatch_189 n (mg μ ρ) l4 = (M_checkPatch_189 n ρ l4).map (mg μ) := fr_M_checkPatch_189_x  _ _ _
theorem fr_M_checkPatch_181 {μ ρ : Mem}  {s1 : Int}  : M_checkPatch_181 (mg μ ρ) s1 = (M_checkPatch_181 ρ s1).map (mg μ) := by
  unfold M_checkPatch_181
  simp only [mg_259, mg_260, mg_261, mg_262, mg_263, mg_264, mg_265, mg_266, mg_267, mg_268, mg_269, mg_270, mg_271, mg_272, mg_273, mg_274, mg_275, mg_276, mg_277, mg_278, mg_279, mg_280, fa_260, fa_261, fa_262, fa_263, fa_264, fa_265, fa_266, fa_267, fa_268, fa_269, fa_270, fa_271, fa_272, fa_273, fa_274, fa_275, fa_276, fa_277, fa_278, fa_279, fa_280, fs_260, fs_261, fs_262, fs_263, fs_264, fs_265, fs_266, fs_267, fs_268, fs_269, fs_270, fs_271, fs_272, fs_273, fs_274, fs_275, fs_276, fs_277, fs_278, fs_279, fs_280, fw_259, fz_259, bmap, mbind, mite, Option.map_some, Option.map_none, Option.bind_some, mgP, fr_M_checkPatch_189, fr_M_refuse]
theorem fr_M_checkPatch_92_x {μ ρ : Mem}  {l1 : Int} {l2 : Int}  : ∀ (n : Nat) (l3 : Int) (l4 : Int), M_checkPatch_92 (mg μ ρ) l1 l2 n l3 l4 = (M_checkPatch_92 ρ l1 l2 n l3 l4).map (mg μ) := by
  intro n
  induction n with
  | zero => intro l3 l4; rfl
  | succ n ih =>
    intro l3 l4
    rw [M_checkPatch_92, M_checkPatch_92]
    simp only [mg_259, mg_260, mg_261, mg_262, mg_263, mg_264, mg_265, mg_266, mg_267, mg_268, mg_269, mg_270, mg_271, mg_272, mg_273, mg_274, mg_275, mg_276, mg_277, mg_278, mg_279, mg_280, fa_260, fa_261, fa_262, fa_263, fa_264, fa_265, fa_266, fa_267, fa_268, fa_269, fa_270, fa_271, fa_272, fa_273, fa_274, fa_275, fa_276, fa_277, fa_278, fa_279, fa_280, fs_260, fs_261, fs_262, fs_263, fs_264, fs_265, fs_266, fs_267, fs_268, fs_269, fs_270, fs_271, fs_272, fs_273, fs_274, fs_275, fs_276, fs_277, fs_278, fs_279, fs_280, fw_259, fz_259, bmap, mbind, mite, Option.map_some, Option.map_none, Option.bind_some, mgP, ih, fr_M_checkPatch_181, fr_M_isPatched, fr_M_width]
theorem fr_M_checkPatch_92 {μ ρ : Mem}  {l1 : Int} {l2 : Int}  {n : Nat} {l3 : Int} {l4 : Int} : M_checkPatch_92 (mg μ ρ) l1 l2 n l3 l4 = (M_checkPatch_92 ρ l1 l2 n l3 l4).map (mg μ) := fr_M_checkPatch_92_x  _ _ _
theorem fr_M_checkPatch_36 {μ ρ : Mem}  {s1 : Int}  : M_checkPatch_36 (mg μ ρ) s1 = (M_checkPatch_36 ρ s1).map (mg μ) := by
  unfold M_checkPatch_36
  simp only [mg_259, mg_260, mg_261, mg_262, mg_263, mg_264, mg_265, mg_266, mg_267, mg_268, mg_269, mg_270, mg_271, mg_272, mg_273, mg_274, mg_275, mg_276, mg_277, mg_278, mg_279, mg_280, fa_260, fa_261, fa_262, fa_263, fa_264, fa_265, fa_266, fa_267, fa_268, fa_269, fa_270, fa_271, fa_272, fa_273, fa_274, fa_275, fa_276, fa_277, fa_278, fa_279, fa_280, fs_260, fs_261, fs_262, fs_263, fs_264, fs_265, fs_266, fs_267, fs_268, fs_269, fs_270, fs_271, fs_272, fs_273, fs_274, fs_275, fs_276, fs_277, fs_278, fs_279, fs_280, fw_259, fz_259, bmap, mbind, mite, Option.map_some, Option.map_none, Option.bind_some, mgP, fr_M_bounds, fr_M_checkPatch_92, fr_M_refuse, fr_M_width]
theorem fr_M_checkPatch {μ ρ : Mem}    : M_checkPatch (mg μ ρ) = (M_checkPatch ρ).map (mg μ) := by
  unfold M_checkPatch
  simp only [mg_259, mg_260, mg_261, mg_262, mg_263, mg_264, mg_265, mg_266, mg_267, mg_268, mg_269, mg_270, mg_271, mg_272, mg_273, mg_274, mg_275, mg_276, mg_277, mg_278, mg_279, mg_280, fa_260, fa_261, fa_262, fa_263, fa_264, fa_265, fa_266, fa_267, fa_268, fa_269, fa_270, fa_271, fa_272, fa_273, fa_274, fa_275, fa_276, fa_277, fa_278, fa_279, fa_280, fs_260, fs_261, fs_262, fs_263, fs_264, fs_265, fs_266, fs_267, fs_268, fs_269, fs_270, fs_271, fs_272, fs_273, fs_274, fs_275, fs_276, fs_277, fs_278, fs_279, fs_280, fw_259, fz_259, bmap, mbind, mite, Option.map_some, Option.map_none, Option.bind_some, mgP, fr_M_bounds, fr_M_checkPatch_36, fr_M_isPatched]
theorem fr_M_put_80_x {μ : Mem}    : ∀ (n : Nat) (ρ : Mem) (l4 : Int), M_put_80 n (mg μ ρ) l4 = (M_put_80 n ρ l4).map (mg μ) := by
  intro n
  induction n with
  | zero => intro ρ l4; rfl
  | succ n ih =>
    intro ρ l4
    rw [M_put_80, M_put_80]
    simp only [mg_259, mg_260, mg_261, mg_262, mg_263, mg_264, mg_265, mg_266, mg_267, mg_268, mg_269, mg_270, mg_271, mg_272, mg_273, mg_274, mg_275, mg_276, mg_277, mg_278, mg_279, mg_280, fa_260, fa_261, fa_262, fa_263, fa_264, fa_265, fa_266, fa_267, fa_268, fa_269, fa_270, fa_271, fa_272, fa_273, fa_274, fa_275, fa_276, fa_277, fa_278, fa_279, fa_280, fs_260, fs_261, fs_262, fs_263, fs_264, fs_265, fs_266, fs_267, fs_268, fs_269, fs_270, fs_271, fs_272, fs_273, fs_274, fs_275, fs_276, fs_277, fs_278, fs_279, fs_280, fw_259, fz_259, bmap, mbind, mite, Option.map_some, Option.map_none, Option.bind_some, mgP, ih]
theorem fr_M_put_80 {μ ρ : Mem}    {n : Nat} {l4 : Int} : M_put_80 n (mg μ ρ) l4 = (M_put_80 n ρ l4).map (mg μ) := fr_M_put_80_x  _ _ _
theorem fr_M_put_69 {μ ρ : Mem}  {l2 : Int} {l3 : Int}  : M_put_69 (mg μ ρ) l2 l3 = (M_put_69 ρ l2 l3).map (mg μ) := by
  unfold M_put_69
  simp only [mg_259, mg_260, mg_261, mg_262, mg_263, mg_264, mg_265, mg_266, mg_267, mg_268, mg_269, mg_270, mg_271, mg_272, mg_273, mg_274, mg_275, mg_276, mg_277, mg_278, mg_279, mg_280, fa_260, fa_261, fa_262, fa_263, fa_264, fa_265, fa_266, fa_267, fa_268, fa_269, fa_270, fa_271, fa_272, fa_273, fa_274, fa_275, fa_276, fa_277, fa_278, fa_279, fa_280, fs_260, fs_261, fs_262, fs_263, fs_264, fs_265, fs_266, fs_267, fs_268, fs_269, fs_270, fs_271, fs_272, fs_273, fs_274, fs_275, fs_276, fs_277, fs_278, fs_279, fs_280, fw_259, fz_259, bmap, mbind, mite, Option.map_some, Option.map_none, Option.bind_some, mgP, fr_M_put_80]
theorem fr_M_put_5_x {μ ρ : Mem}  {l1 : Int} {l2 : Int}  : ∀ (n : Nat) (l3 : Int) (l4 : Int), M_put_5 (mg μ ρ) l1 l2 n l3 l4 = (M_put_5 ρ l1 l2 n l3 l4).map (mg μ) := by
  intro n
  induction n with
  | zero => intro l3 l4; rfl
  | succ n ih =>
    intro l3 l4
    rw [M_put_5, M_put_5]
    simp only [mg_259, mg_260, mg_261, mg_262, mg_263, mg_264, mg_265, mg_266, mg_267, mg_268, mg_269, mg_270, mg_271, mg_272, mg_273, mg_274, mg_275, mg_276, mg_277, mg_278, mg_279, mg_280, fa_260, fa_261, fa_262, fa_263, fa_264, fa_265, fa_266, fa_267, fa_268, fa_269, fa_270, fa_271, fa_272, fa_273, fa_274, fa_275, fa_276, fa_277, fa_278, fa_279, fa_280, fs_260, fs_261, fs_262, fs_263, fs_264, fs_265, fs_266, fs_267, fs_268, fs_269, fs_270, fs_271, fs_272, fs_273, fs_274, fs_275, fs_276, fs_277, fs_278, fs_279, fs_280, fw_259, fz_259, bmap, mbind, mite, Option.map_some, Option.map_none, Option.bind_some, mgP, ih, fr_M_put_69]
theorem fr_M_put_5 {μ ρ : Mem}  {l1 : Int} {l2 : Int}  {n : Nat} {l3 : Int} {l4 : Int} : M_put_5 (mg μ ρ) l1 l2 n l3 l4 = (M_put_5 ρ l1 l2 n l3 l4).map (mg μ) := fr_M_put_5_x  _ _ _
theorem fr_M_put {μ ρ : Mem}  {a1 : Int} {a2 : Int}  : M_put (mg μ ρ) a1 a2 = (M_put ρ a1 a2).map (mg μ) := by
  unfold M_put
  simp only [mg_259, mg_260, mg_261, mg_262, mg_263, mg_264, mg_265, mg_266, mg_267, mg_268, mg_269, mg_270, mg_271, mg_272, mg_273, mg_274, mg_275, mg_276, mg_277, mg_278, mg_279, mg_280, fa_260, fa_261, fa_262, fa_263, fa_264, fa_265, fa_266, fa_267, fa_268, fa_269, fa_270, fa_271, fa_272, fa_273, fa_274, fa_275, fa_276, fa_277, fa_278, fa_279, fa_280, fs_260, fs_261, fs_262, fs_263, fs_264, fs_265, fs_266, fs_267, fs_268, fs_269, fs_270, fs_271, fs_272, fs_273, fs_274, fs_275, fs_276, fs_277, fs_278, fs_279, fs_280, fw_259, fz_259, bmap, mbind, mite, Option.map_some, Option.map_none, Option.bind_some, mgP, fr_M_put_5]
theorem fr_M_groupAt_55_x {μ : Mem}  {l2 : Int} {l3 : Int}  : ∀ (n : Nat) (ρ : Mem) (l4 : Int), M_groupAt_55 l2 l3 n (mg μ ρ) l4 = (M_groupAt_55 l2 l3 n ρ l4).map (mg μ) := by
  intro n
  induction n with
  | zero => intro ρ l4; rfl
  | succ n ih =>
    intro ρ l4
    rw [M_groupAt_55, M_groupAt_55]
    simp only [mg_259, mg_260, mg_261, mg_262, mg_263, mg_264, mg_265, mg_266, mg_267, mg_268, mg_269, mg_270, mg_271, mg_272, mg_273, mg_274, mg_275, mg_276, mg_277, mg_278, mg_279, mg_280, fa_260, fa_261, fa_262, fa_263, fa_264, fa_265, fa_266, fa_267, fa_268, fa_269, fa_270, fa_271, fa_272, fa_273, fa_274, fa_275, fa_276, fa_277, fa_278, fa_279, fa_280, fs_260, fs_261, fs_262, fs_263, fs_264, fs_265, fs_266, fs_267, fs_268, fs_269, fs_270, fs_271, fs_272, fs_273, fs_274, fs_275, fs_276, fs_277, fs_278, fs_279, fs_280, fw_259, fz_259, bmap, mbind, mite, Option.map_some, Option.map_none, Option.bind_some, mgP, ih, fr_M_put]
theorem fr_M_groupAt_55 {μ ρ : Mem}  {l2 : Int} {l3 : Int}  {n : Nat} {l4 : Int} : M_groupAt_55 l2 l3 n (mg μ ρ) l4 = (M_groupAt_55 l2 l3 n ρ l4).map (mg μ) := fr_M_groupAt_55_x  _ _ _
theorem fr_M_groupAt_47 {μ ρ : Mem}  {l1 : Int} {l2 : Int} {l3 : Int} {s1 : Int}  : M_groupAt_47 (mg μ ρ) l1 l2 l3 s1 = (M_groupAt_47 ρ l1 l2 l3 s1).map (mg μ) := by
  unfold M_groupAt_47
  simp only [mg_259, mg_260, mg_261, mg_262, mg_263, mg_264, mg_265, mg_266, mg_267, mg_268, mg_269, mg_270, mg_271, mg_272, mg_273, mg_274, mg_275, mg_276, mg_277, mg_278, mg_279, mg_280, fa_260, fa_261, fa_262, fa_263, fa_264, fa_265, fa_266, fa_267, fa_268, fa_269, fa_270, fa_271, fa_272, fa_273, fa_274, fa_275, fa_276, fa_277, fa_278, fa_279, fa_280, fs_260, fs_261, fs_262, fs_263, fs_264, fs_265, fs_266, fs_267, fs_268, fs_269, fs_270, fs_271, fs_272, fs_273, fs_274, fs_275, fs_276, fs_277, fs_278, fs_279, fs_280, fw_259, fz_259, bmap, mbind, mite, Option.map_some, Option.map_none, Option.bind_some, mgP, fr_M_groupAt_55, fr_M_refuse]
theorem fr_M_groupAt {μ ρ : Mem}  {a1 : Int} {a2 : Int}  : M_groupAt (mg μ ρ) a1 a2 = (M_groupAt ρ a1 a2).map (mg μ) := by
  unfold M_groupAt
  simp only [mg_259, mg_260, mg_261, mg_262, mg_263, mg_264, mg_265, mg_266, mg_267, mg_268, mg_269, mg_270, mg_271, mg_272, mg_273, mg_274, mg_275, mg_276, mg_277, mg_278, mg_279, mg_280, fa_260, fa_261, fa_262, fa_263, fa_264, fa_265, fa_266, fa_267, fa_268, fa_269, fa_270, fa_271, fa_272, fa_273, fa_274, fa_275, fa_276, fa_277, fa_278, fa_279, fa_280, fs_260, fs_261, fs_262, fs_263, fs_264, fs_265, fs_266, fs_267, fs_268, fs_269, fs_270, fs_271, fs_272, fs_273, fs_274, fs_275, fs_276, fs_277, fs_278, fs_279, fs_280, fw_259, fz_259, bmap, mbind, mite, Option.map_some, Option.map_none, Option.bind_some, mgP, fr_M_bounds, fr_M_groupAt_47]
theorem fr_M_through_15_x {μ : Mem}  {l2 : Int} {l3 : Int} {l4 : Int}  : ∀ (n : Nat) (ρ : Mem) (l5 : Int), M_through_15 l2 l3 l4 n (mg μ ρ) l5 = (M_through_15 l2 l3 l4 n ρ l5).map (mg μ) := by
  intro n
  induction n with
  | zero => intro ρ l5; rfl
  | succ n ih =>
    intro ρ l5
    rw [M_through_15, M_through_15]
    simp only [mg_259, mg_260, mg_261, mg_262, mg_263, mg_264, mg_265, mg_266, mg_267, mg_268, mg_269, mg_270, mg_271, mg_272, mg_273, mg_274, mg_275, mg_276, mg_277, mg_278, mg_279, mg_280, fa_260, fa_261, fa_262, fa_263, fa_264, fa_265, fa_266, fa_267, fa_268, fa_269, fa_270, fa_271, fa_272, fa_273, fa_274, fa_275, fa_276, fa_277, fa_278, fa_279, fa_280, fs_260, fs_261, fs_262, fs_263, fs_264, fs_265, fs_266, fs_267, fs_268, fs_269, fs_270, fs_271, fs_272, fs_273, fs_274, fs_275, fs_276, fs_277, fs_278, fs_279, fs_280, fw_259, fz_259, bmap, mbind, mite, Option.map_some, Option.map_none, Option.bind_some, mgP, ih, fr_M_isPatched, fr_M_put]
theorem fr_M_through_15 {μ ρ : Mem}  {l2 : Int} {l3 : Int} {l4 : Int}  {n : Nat} {l5 : Int} : M_through_15 l2 l3 l4 n (mg μ ρ) l5 = (M_through_15 l2 l3 l4 n ρ l5).map (mg μ) := fr_M_through_15_x  _ _ _
theorem fr_M_through {μ ρ : Mem}  {a1 : Int} {a2 : Int} {a3 : Int}  : M_through (mg μ ρ) a1 a2 a3 = (M_through ρ a1 a2 a3).map (mg μ) := by
  unfold M_through
  simp only [mg_259, mg_260, mg_261, mg_262, mg_263, mg_264, mg_265, mg_266, mg_267, mg_268, mg_269, mg_270, mg_271, mg_272, mg_273, mg_274, mg_275, mg_276, mg_277, mg_278, mg_279, mg_280, fa_260, fa_261, fa_262, fa_263, fa_264, fa_265, fa_266, fa_267, fa_268, fa_269, fa_270, fa_271, fa_272, fa_273, fa_274, fa_275, fa_276, fa_277, fa_278, fa_279, fa_280, fs_260, fs_261, fs_262, fs_263, fs_264, fs_265, fs_266, fs_267, fs_268, fs_269, fs_270, fs_271, fs_272, fs_273, fs_274, fs_275, fs_276, fs_277, fs_278, fs_279, fs_280, fw_259, fz_259, bmap, mbind, mite, Option.map_some, Option.map_none, Option.bind_some, mgP, fr_M_through_15]
theorem fr_M_termAt_11_x {μ : Mem}  {l1 : Int} {l2 : Int}  : ∀ (n : Nat) (ρ : Mem) (l3 : Int), M_termAt_11 l1 l2 n (mg μ ρ) l3 = (M_termAt_11 l1 l2 n ρ l3).map (mgP μ) := by
  intro n
  induction n with
  | zero => intro ρ l3; rfl
  | succ n ih =>
    intro ρ l3
    rw [M_termAt_11, M_termAt_11]
    simp only [mg_259, mg_260, mg_261, mg_262, mg_263, mg_264, mg_265, mg_266, mg_267, mg_268, mg_269, mg_270, mg_271, mg_272, mg_273, mg_274, mg_275, mg_276, mg_277, mg_278, mg_279, mg_280, fa_260, fa_261, fa_262, fa_263, fa_264, fa_265, fa_266, fa_267, fa_268, fa_269, fa_270, fa_271, fa_272, fa_273, fa_274, fa_275, fa_276, fa_277, fa_278, fa_279, fa_280, fs_260, fs_261, fs_262, fs_263, fs_264, fs_265, fs_266, fs_267, fs_268, fs_269, fs_270, fs_271, fs_272, fs_273, fs_274, fs_275, fs_276, fs_277, fs_278, fs_279, fs_280, fw_259, fz_259, bmap, mbind, mite, Option.map_some, Option.map_none, Option.bind_some, mgP, ih, fr_M_isPatched, fr_M_put]
theorem fr_M_termAt_11 {μ ρ : Mem}  {l1 : Int} {l2 : Int}  {n : Nat} {l3 : Int} : M_termAt_11 l1 l2 n (mg μ ρ) l3 = (M_termAt_11 l1 l2 n ρ l3).map (mgP μ) := fr_M_termAt_11_x  _ _ _
theorem fr_M_termAt_109 {μ ρ : Mem}  {l1 : Int} {l2 : Int} {s1 : Int}  : M_termAt_109 (mg μ ρ) l1 l2 s1 = (M_termAt_109 ρ l1 l2 s1).map (mgP μ) := by
  unfold M_termAt_109
  simp only [mg_259, mg_260, mg_261, mg_262, mg_263, mg_264, mg_265, mg_266, mg_267, mg_268, mg_269, mg_270, mg_271, mg_272, mg_273, mg_274, mg_275, mg_276, mg_277, mg_278, mg_279, mg_280, fa_260, fa_261, fa_262, fa_263, fa_264, fa_265, fa_266, fa_267, fa_268, fa_269, fa_270, fa_271, fa_272, fa_273, fa_274, fa_275, fa_276, fa_277, fa_278, fa_279, fa_280, fs_260, fs_261, fs_262, fs_263, fs_264, fs_265, fs_266, fs_267, fs_268, fs_269, fs_270, fs_271, fs_272, fs_273, fs_274, fs_275, fs_276, fs_277, fs_278, fs_279, fs_280, fw_259, fz_259, bmap, mbind, mite, Option.map_some, Option.map_none, Option.bind_some, mgP, fr_M_put, fr_M_refuse]
theorem fr_M_termAt {μ ρ : Mem}  {a1 : Int} {a2 : Int}  : M_termAt (mg μ ρ) a1 a2 = (M_termAt ρ a1 a2).map (mgP μ) := by
  unfold M_termAt
  simp only [mg_259, mg_260, mg_261, mg_262, mg_263, mg_264, mg_265, mg_266, mg_267, mg_268, mg_269, mg_270, mg_271, mg_272, mg_273, mg_274, mg_275, mg_276, mg_277, mg_278, mg_279, mg_280, fa_260, fa_261, fa_262, fa_263, fa_264, fa_265, fa_266, fa_267, fa_268, fa_269, fa_270, fa_271, fa_272, fa_273, fa_274, fa_275, fa_276, fa_277, fa_278, fa_279, fa_280, fs_260, fs_261, fs_262, fs_263, fs_264, fs_265, fs_266, fs_267, fs_268, fs_269, fs_270, fs_271, fs_272, fs_273, fs_274, fs_275, fs_276, fs_277, fs_278, fs_279, fs_280, fw_259, fz_259, bmap, mbind, mite, Option.map_some, Option.map_none, Option.bind_some, mgP, fr_M_bounds, fr_M_groupAt, fr_M_isPatched, fr_M_isWordAt, fr_M_termAt_109, fr_M_termAt_11, fr_M_through]
theorem fr_M_gather_32 {μ ρ : Mem} {K12 J12 : Mem → Int → Option (Mem)} {l1 : Int} {l2 : Int} (hK12 : ∀ (ρ : Mem) (l2 : Int), K12 (mg μ ρ) l2 = (J12 ρ l2).map (mg μ)) : M_gather_32 K12 (mg μ ρ) l1 l2 = (M_gather_32 J12 ρ l1 l2).map (mg μ) := by
  unfold M_gather_32
  simp only [mg_259, mg_260, mg_261, mg_262, mg_263, mg_264, mg_265, mg_266, mg_267, mg_268, mg_269, mg_270, mg_271, mg_272, mg_273, mg_274, mg_275, mg_276, mg_277, mg_278, mg_279, mg_280, fa_260, fa_261, fa_262, fa_263, fa_264, fa_265, fa_266, fa_267, fa_268, fa_269, fa_270, fa_271, fa_272, fa_273, fa_274, fa_275, fa_276, fa_277, fa_278, fa_279, fa_280, fs_260, fs_261, fs_262, fs_263, fs_264, fs_265, fs_266, fs_267, fs_268, fs_269, fs_270, fs_271, fs_272, fs_273, fs_274, fs_275, fs_276, fs_277, fs_278, fs_279, fs_280, fw_259, fz_259, bmap, mbind, mite, Option.map_some, Option.map_none, Option.bind_some, mgP, hK12, fr_M_isSignAt, fr_M_termAt]
theorem fr_M_gather_63 {μ ρ : Mem}  {l1 : Int} {l2 : Int} {s1 : Int}  : M_gather_63 (mg μ ρ) l1 l2 s1 = (M_gather_63 ρ l1 l2 s1).map (mg μ) := by
  unfold M_gather_63
  simp only [mg_259, mg_260, mg_261, mg_262, mg_263, mg_264, mg_265, mg_266, mg_267, mg_268, mg_269, mg_270, mg_271, mg_272, mg_273, mg_274, mg_275, mg_276, mg_277, mg_278, mg_279, mg_280, fa_260, fa_261, fa_262, fa_263, fa_264, fa_265, fa_266, fa_267, fa_268, fa_269, fa_270, fa_271, fa_272, fa_273, fa_274, fa_275, fa_276, fa_277, fa_278, fa_279, fa_280, fs_260, fs_261, fs_262, fs_263, fs_264, fs_265, fs_266, fs_267, fs_268, fs_269, fs_270, fs_271, fs_272, fs_273, fs_274, fs_275, fs_276, fs_277, fs_278, fs_279, fs_280, fw_259, fz_259, bmap, mbind, mite, Option.map_some, Option.map_none, Option.bind_some, mgP, fr_M_refuse]
theorem fr_M_gather_12_x {μ : Mem}  {l1 : Int}  : ∀ (n : Nat) (ρ : Mem) (l2 : Int), M_gather_12 l1 n (mg μ ρ) l2 = (M_gather_12 l1 n ρ l2).map (mg μ) := by
  intro n
  induction n with
  | zero => intro ρ l2; rfl
  | succ n ih =>
    intro ρ l2
    rw [M_gather_12, M_gather_12]
    simp only [mg_259, mg_260, mg_261, mg_262, mg_263, mg_264, mg_265, mg_266, mg_267, mg_268, mg_269, mg_270, mg_271, mg_272, mg_273, mg_274, mg_275, mg_276, mg_277, mg_278, mg_279, mg_280, fa_260, fa_261, fa_262, fa_263, fa_264, fa_265, fa_266, fa_267, fa_268, fa_269, fa_270, fa_271, fa_272, fa_273, fa_274, fa_275, fa_276, fa_277, fa_278, fa_279, fa_280, fs_260, fs_261, fs_262, fs_263, fs_264, fs_265, fs_266, fs_267, fs_268, fs_269, fs_270, fs_271, fs_272, fs_273, fs_274, fs_275, fs_276, fs_277, fs_278, fs_279, fs_280, fw_259, fz_259, bmap, mbind, mite, Option.map_some, Option.map_none, Option.bind_some, mgP, ih, fr_M_gather_32 ih, fr_M_gather_63, fr_M_isSignAt]
theorem fr_M_gather_12 {μ ρ : Mem}  {l1 : Int}  {n : Nat} {l2 : Int} : M_gather_12 l1 n (mg μ ρ) l2 = (M_gather_12 l1 n ρ l2).map (mg μ) := fr_M_gather_12_x  _ _ _
theorem fr_M_gather {μ ρ : Mem}  {a1 : Int}  : M_gather (mg μ ρ) a1 = (M_gather ρ a1).map (mg μ) := by
  unfold M_gather
  simp only [mg_259, mg_260, mg_261, mg_262, mg_263, mg_264, mg_265, mg_266, mg_267, mg_268, mg_269, mg_270, mg_271, mg_272, mg_273, mg_274, mg_275, mg_276, mg_277, mg_278, mg_279, mg_280, fa_260, fa_261, fa_262, fa_263, fa_264, fa_265, fa_266, fa_267, fa_268, fa_269, fa_270, fa_271, fa_272, fa_273, fa_274, fa_275, fa_276, fa_277, fa_278, fa_279, fa_280, fs_260, fs_261, fs_262, fs_263, fs_264, fs_265, fs_266, fs_267, fs_268, fs_269, fs_270, fs_271, fs_272, fs_273, fs_274, fs_275, fs_276, fs_277, fs_278, fs_279, fs_280, fw_259, fz_259, bmap, mbind, mite, Option.map_some, Option.map_none, Option.bind_some, mgP, fr_M_gather_12, fr_M_termAt]
theorem fr_M_checkSet_40 {μ ρ : Mem} {K10 J10 : Mem → Int → Option (Mem)} {l1 : Int} (hK10 : ∀ (ρ : Mem) (l1 : Int), K10 (mg μ ρ) l1 = (J10 ρ l1).map (mg μ)) : M_checkSet_40 K10 (mg μ ρ) l1 = (M_checkSet_40 J10 ρ l1).map (mg μ) := by
  unfold M_checkSet_40
  simp only [mg_259, mg_260, mg_261, mg_262, mg_263, mg_264, mg_265, mg_266, mg_267, mg_268, mg_269, mg_270, mg_271, mg_272, mg_273, mg_274, mg_275, mg_276, mg_277, mg_278, mg_279, mg_280, fa_260, fa_261, fa_262, fa_263, fa_264, fa_265, fa_266, fa_267, fa_268, fa_269, fa_270, fa_271, fa_272, fa_273, fa_274, fa_275, fa_276, fa_277, fa_278, fa_279, fa_280, fs_260, fs_261, fs_262, fs_263, fs_264, fs_265, fs_266, fs_267, fs_268, fs_269, fs_270, fs_271, fs_272, fs_273, fs_274, fs_275, fs_276, fs_277, fs_278, fs_279, fs_280, fw_259, fz_259, bmap, mbind, mite, Option.map_some, Option.map_none, Option.bind_some, mgP, hK10, fr_M_bounds]
theorem fr_M_checkSet_10_x {μ : Mem}    : ∀ (n : Nat) (ρ : Mem) (l1 : Int), M_checkSet_10 n (mg μ ρ) l1 = (M_checkSet_10 n ρ l1).map (mg μ) := by
  intro n
  induction n with
  | zero => intro ρ l1; rfl
  | succ n ih =>
    intro ρ l1
    rw [M_checkSet_10, M_checkSet_10]
    simp only [mg_259, mg_260, mg_261, mg_262, mg_263, mg_264, mg_265, mg_266, mg_267, mg_268, mg_269, mg_270, mg_271, mg_272, mg_273, mg_274, mg_275, mg_276, mg_277, mg_278, mg_279, mg_280, fa_260, fa_261, fa_262, fa_263, fa_264, fa_265, fa_266, fa_267, fa_268, fa_269, fa_270, fa_271, fa_272, fa_273, fa_274, fa_275, fa_276, fa_277, fa_278, fa_279, fa_280, fs_260, fs_261, fs_262, fs_263, fs_264, fs_265, fs_266, fs_267, fs_268, fs_269, fs_270, fs_271, fs_272, fs_273, fs_274, fs_275, fs_276, fs_277, fs_278, fs_279, fs_280, fw_259, fz_259, bmap, mbind, mite, Option.map_some, Option.map_none, Option.bind_some, mgP, ih, fr_M_bounds, fr_M_checkSet_40 ih, fr_M_isSignAt, fr_M_isWordAt]
theorem fr_M_checkSet_10 {μ ρ : Mem}    {n : Nat} {l1 : Int} : M_checkSet_10 n (mg μ ρ) l1 = (M_checkSet_10 n ρ l1).map (mg μ) := fr_M_checkSet_10_x  _ _ _
theorem fr_M_checkSet {μ ρ : Mem}    : M_checkSet (mg μ ρ) = (M_checkSet ρ).map (mg μ) := by
  unfold M_checkSet
  simp only [mg_259, mg_260, mg_261, mg_262, mg_263, mg_264, mg_265, mg_266, mg_267, mg_268, mg_269, mg_270, mg_271, mg_272, mg_273, mg_274, mg_275, mg_276, mg_277, mg_278, mg_279, mg_280, fa_260, fa_261, fa_262, fa_263, fa_264, fa_265, fa_266, fa_267, fa_268, fa_269, fa_270, fa_271, fa_272, fa_273, fa_274, fa_275, fa_276, fa_277, fa_278, fa_279, fa_280, fs_260, fs_261, fs_262, fs_263, fs_264, fs_265, fs_266, fs_267, fs_268, fs_269, fs_270, fs_271, fs_272, fs_273, fs_274, fs_275, fs_276, fs_277, fs_278, fs_279, fs_280, fw_259, fz_259, bmap, mbind, mite, Option.map_some, Option.map_none, Option.bind_some, mgP, fr_M_checkSet_10, fr_M_gather]
theorem fr_M_isParameterAt {μ ρ : Mem}  {a1 : Int}  : M_isParameterAt (mg μ ρ) a1 = M_isParameterAt ρ a1 := by
  unfold M_isParameterAt
  simp only [mg_259, mg_260, mg_261, mg_262, mg_263, mg_264, mg_265, mg_266, mg_267, mg_268, mg_269, mg_270, mg_271, mg_272, mg_273, mg_274, mg_275, mg_276, mg_277, mg_278, mg_279, mg_280, fa_260, fa_261, fa_262, fa_263, fa_264, fa_265, fa_266, fa_267, fa_268, fa_269, fa_270, fa_271, fa_272, fa_273, fa_274, fa_275, fa_276, fa_277, fa_278, fa_279, fa_280, fs_260, fs_261, fs_262, fs_263, fs_264, fs_265, fs_266, fs_267, fs_268, fs_269, fs_270, fs_271, fs_272, fs_273, fs_274, fs_275, fs_276, fs_277, fs_278, fs_279, fs_280, fw_259, fz_259, bmap, mbind, mite, Option.map_some, Option.map_none, Option.bind_some, mgP, fr_M_in, fr_M_isSignAt]
theorem fr_M_cueNumber {μ ρ : Mem}  {a1 : Int}  : M_cueNumber (mg μ ρ) a1 = M_cueNumber ρ a1 := by
  unfold M_cueNumber
  simp only [mg_259, mg_260, mg_261, mg_262, mg_263, mg_264, mg_265, mg_266, mg_267, mg_268, mg_269, mg_270, mg_271, mg_272, mg_273, mg_274, mg_275, mg_276, mg_277, mg_278, mg_279, mg_280, fa_260, fa_261, fa_262, fa_263, fa_264, fa_265, fa_266, fa_267, fa_268, fa_269, fa_270, fa_271, fa_272, fa_273, fa_274, fa_275, fa_276, fa_277, fa_278, fa_279, fa_280, fs_260, fs_261, fs_262, fs_263, fs_264, fs_265, fs_266, fs_267, fs_268, fs_269, fs_270, fs_271, fs_272, fs_273, fs_274, fs_275, fs_276, fs_277, fs_278, fs_279, fs_280, fw_259, fz_259, bmap, mbind, mite, Option.map_some, Option.map_none, Option.bind_some, mgP]
theorem fr_M_cueRow_4_x {μ ρ : Mem}  {l1 : Int}  : ∀ (n : Nat) (l2 : Int) (l3 : Int), M_cueRow_4 (mg μ ρ) l1 n l2 l3 = M_cueRow_4 ρ l1 n l2 l3 := by
  intro n
  induction n with
  | zero => intro l2 l3; rfl
  | succ n ih =>
    intro l2 l3
    rw [M_cueRow_4, M_cueRow_4]
    simp only [mg_259, mg_260, mg_261, mg_262, mg_263, mg_264, mg_265, mg_266, mg_267, mg_268, mg_269, mg_270, mg_271, mg_272, mg_273, mg_274, mg_275, mg_276, mg_277, mg_278, mg_279, mg_280, fa_260, fa_261, fa_262, fa_263, fa_264, fa_265, fa_266, fa_267, fa_268, fa_269, fa_270, fa_271, fa_272, fa_273, fa_274, fa_275, fa_276, fa_277, fa_278, fa_279, fa_280, fs_260, fs_261, fs_262, fs_263, fs_264, fs_265, fs_266, fs_267, fs_268, fs_269, fs_270, fs_271, fs_272, fs_273, fs_274, fs_275, fs_276, fs_277, fs_278, fs_279, fs_280, fw_259, fz_259, bmap, mbind, mite, Option.map_some, Option.map_none, Option.bind_some, mgP, ih, fr_M_cueNumber]
theorem fr_M_cueRow_4 {μ ρ : Mem}  {l1 : Int}  {n : Nat} {l2 : Int} {l3 : Int} : M_cueRow_4 (mg μ ρ) l1 n l2 l3 = M_cueRow_4 ρ l1 n l2 l3 := fr_M_cueRow_4_x  _ _ _
theorem fr_M_cueRow {μ ρ : Mem}  {a1 : Int}  : M_cueRow (mg μ ρ) a1 = M_cueRow ρ a1 := by
  unfold M_cueRow
  simp only [mg_259, mg_260, mg_261, mg_262, mg_263, mg_264, mg_265, mg_266, mg_267, mg_268, mg_269, mg_270, mg_271, mg_272, mg_273, mg_274, mg_275, mg_276, mg_277, mg_278, mg_279, mg_280, fa_260, fa_261, fa_262, fa_263, fa_264, fa_265, fa_266, fa_267, fa_268, fa_269, fa_270, fa_271, fa_272, fa_273, fa_274, fa_275, fa_276, fa_277, fa_278, fa_279, fa_280, fs_260, fs_261, fs_262, fs_263, fs_264, fs_265, fs_266, fs_267, fs_268, fs_269, fs_270, fs_271, fs_272, fs_273, fs_274, fs_275, fs_276, fs_277, fs_278, fs_279, fs_280, fw_259, fz_259, bmap, mbind, mite, Option.map_some, Option.map_none, Option.bind_some, mgP, fr_M_cueRow_4]
theorem fr_M_cues_4_x {μ ρ : Mem}    : ∀ (n : Nat) (l1 : Int) (l2 : Int), M_cues_4 (mg μ ρ) n l1 l2 = M_cues_4 ρ n l1 l2 := by
  intro n
  induction n with
  | zero => intro l1 l2; rfl
  | succ n ih =>
    intro l1 l2
    rw [M_cues_4, M_cues_4]
    simp only [mg_259, mg_260, mg_261, mg_262, mg_263, mg_264, mg_265, mg_266, mg_267, mg_268, mg_269, mg_270, mg_271, mg_272, mg_273, mg_274, mg_275, mg_276, mg_277, mg_278, mg_279, mg_280, fa_260, fa_261, fa_262, fa_263, fa_264, fa_265, fa_266, fa_267, fa_268, fa_269, fa_270, fa_271, fa_272, fa_273, fa_274, fa_275, fa_276, fa_277, fa_278, fa_279, fa_280, fs_260, fs_261, fs_262, fs_263, fs_264, fs_265, fs_266, fs_267, fs_268, fs_269, fs_270, fs_271, fs_272, fs_273, fs_274, fs_275, fs_276, fs_277, fs_278, fs_279, fs_280, fw_259, fz_259, bmap, mbind, mite, Option.map_some, Option.map_none, Option.bind_some, mgP, ih, fr_M_cueNumber]
theorem fr_M_cues_4 {μ ρ : Mem}    {n : Nat} {l1 : Int} {l2 : Int} : M_cues_4 (mg μ ρ) n l1 l2 = M_cues_4 ρ n l1 l2 := fr_M_cues_4_x  _ _ _
theorem fr_M_cues {μ ρ : Mem}    : M_cues (mg μ ρ) = M_cues ρ := by
  unfold M_cues
  simp only [mg_259, mg_260, mg_261, mg_262, mg_263, mg_264, mg_265, mg_266, mg_267, mg_268, mg_269, mg_270, mg_271, mg_272, mg_273, mg_274, mg_275, mg_276, mg_277, mg_278, mg_279, mg_280, fa_260, fa_261, fa_262, fa_263, fa_264, fa_265, fa_266, fa_267, fa_268, fa_269, fa_270, fa_271, fa_272, fa_273, fa_274, fa_275, fa_276, fa_277, fa_278, fa_279, fa_280, fs_260, fs_261, fs_262, fs_263, fs_264, fs_265, fs_266, fs_267, fs_268, fs_269, fs_270, fs_271, fs_272, fs_273, fs_274, fs_275, fs_276, fs_277, fs_278, fs_279, fs_280, fw_259, fz_259, bmap, mbind, mite, Option.map_some, Option.map_none, Option.bind_some, mgP, fr_M_cues_4]
theorem fr_M_checkNumber_37 {μ ρ : Mem}  {l1 : Int} {s1 : Int}  : M_checkNumber_37 (mg μ ρ) l1 s1 = (M_checkNumber_37 ρ l1 s1).map (mg μ) := by
  unfold M_checkNumber_37
  simp only [mg_259, mg_260, mg_261, mg_262, mg_263, mg_264, mg_265, mg_266, mg_267, mg_268, mg_269, mg_270, mg_271, mg_272, mg_273, mg_274, mg_275, mg_276, mg_277, mg_278, mg_279, mg_280, fa_260, fa_261, fa_262, fa_263, fa_264, fa_265, fa_266, fa_267, fa_268, fa_269, fa_270, fa_271, fa_272, fa_273, fa_274, fa_275, fa_276, fa_277, fa_278, fa_279, fa_280, fs_260, fs_261, fs_262, fs_263, fs_264, fs_265, fs_266, fs_267, fs_268, fs_269, fs_270, fs_271, fs_272, fs_273, fs_274, fs_275, fs_276, fs_277, fs_278, fs_279, fs_280, fw_259, fz_259, bmap, mbind, mite, Option.map_some, Option.map_none, Option.bind_some, mgP, fr_M_refuse]
theorem fr_M_checkNumber {μ ρ : Mem}  {a1 : Int}  : M_checkNumber (mg μ ρ) a1 = (M_checkNumber ρ a1).map (mg μ) := by
  unfold M_checkNumber
  simp only [mg_259, mg_260, mg_261, mg_262, mg_263, mg_264, mg_265, mg_266, mg_267, mg_268, mg_269, mg_270, mg_271, mg_272, mg_273, mg_274, mg_275, mg_276, mg_277, mg_278, mg_279, mg_280, fa_260, fa_261, fa_262, fa_263, fa_264, fa_265, fa_266, fa_267, fa_268, fa_269, fa_270, fa_271, fa_272, fa_273, fa_274, fa_275, fa_276, fa_277, fa_278, fa_279, fa_280, fs_260, fs_261, fs_262, fs_263, fs_264, fs_265, fs_266, fs_267, fs_268, fs_269, fs_270, fs_271, fs_272, fs_273, fs_274, fs_275, fs_276, fs_277, fs_278, fs_279, fs_280, fw_259, fz_259, bmap, mbind, mite, Option.map_some, Option.map_none, Option.bind_some, mgP, fr_M_bounds, fr_M_checkNumber_37, fr_M_cueRow, fr_M_cues]
theorem fr_M_checkTimes_56 {μ ρ : Mem} {K2 J2 : Mem → Int → Option (Mem)} {l2 : Int} {s1 : Int} {s2 : Int} {s3 : Int} (hK2 : ∀ (ρ : Mem) (l2 : Int), K2 (mg μ ρ) l2 = (J2 ρ l2).map (mg μ)) : M_checkTimes_56 K2 (mg μ ρ) l2 s1 s2 s3 = (M_checkTimes_56 J2 ρ l2 s1 s2 s3).map (mg μ) := by
  unfold M_checkTimes_56
  simp only [mg_259, mg_260, mg_261, mg_262, mg_263, mg_264, mg_265, mg_266, mg_267, mg_268, mg_269, mg_270, mg_271, mg_272, mg_273, mg_274, mg_275, mg_276, mg_277, mg_278, mg_279, mg_280, fa_260, fa_261, fa_262, fa_263, fa_264, fa_265, fa_266, fa_267, fa_268, fa_269, fa_270, fa_271, fa_272, fa_273, fa_274, fa_275, fa_276, fa_277, fa_278, fa_279, fa_280, fs_260, fs_261, fs_262, fs_263, fs_264, fs_265, fs_266, fs_267, fs_268, fs_269, fs_270, fs_271, fs_272, fs_273, fs_274, fs_275, fs_276, fs_277, fs_278, fs_279, fs_280, fw_259, fz_259, bmap, mbind, mite, Option.map_some, Option.map_none, Option.bind_some, mgP, hK2, fr_M_bounds]
theorem fr_M_checkTimes_43 {μ ρ : Mem} {K2 J2 : Mem → Int → Option (Mem)} {l2 : Int} {l3 : Int} {s1 : Int} {s2 : Int} (hK2 : ∀ (ρ : Mem) (l2 : Int), K2 (mg μ ρ) l2 = (J2 ρ l2).map (mg μ)) : M_checkTimes_43 K2 (mg μ ρ) l2 l3 s1 s2 = (M_checkTimes_43 J2 ρ l2 l3 s1 s2).map (mg μ) := by
  unfold M_checkTimes_43
  simp only [mg_259, mg_260, mg_261, mg_262, mg_263, mg_264, mg_265, mg_266, mg_267, mg_268, mg_269, mg_270, mg_271, mg_272, mg_273, mg_274, mg_275, mg_276, mg_277, mg_278, mg_279, mg_280, fa_260, fa_261, fa_262, fa_263, fa_264, fa_265, fa_266, fa_267, fa_268, fa_269, fa_270, fa_271, fa_272, fa_273, fa_274, fa_275, fa_276, fa_277, fa_278, fa_279, fa_280, fs_260, fs_261, fs_262, fs_263, fs_264, fs_265, fs_266, fs_267, fs_268, fs_269, fs_270, fs_271, fs_272, fs_273, fs_274, fs_275, fs_276, fs_277, fs_278, fs_279, fs_280, fw_259, fz_259, bmap, mbind, mite, Option.map_some, Option.map_none, Option.bind_some, mgP, hK2, fr_M_checkTimes_56 hK2]
theorem fr_M_checkTimes_2_x {μ : Mem}    : ∀ (n : Nat) (ρ : Mem) (l2 : Int), M_checkTimes_2 n (mg μ ρ) l2 = (M_checkTimes_2 n ρ l2).map (mg μ) := by
  intro n
  induction n with
  | zero => intro ρ l2; rfl
  | succ n ih =>
    intro ρ l2
    rw [M_checkTimes_2, M_checkTimes_2]
    simp only [mg_259, mg_260, mg_261, mg_262, mg_263, mg_264, mg_265, mg_266, mg_267, mg_268, mg_269, mg_270, mg_271, mg_272, mg_273, mg_274, mg_275, mg_276, mg_277, mg_278, mg_279, mg_280, fa_260, fa_261, fa_262, fa_263, fa_264, fa_265, fa_266, fa_267, fa_268, fa_269, fa_270, fa_271, fa_272, fa_273, fa_274, fa_275, fa_276, fa_277, fa_278, fa_279, fa_280, fs_260, fs_261, fs_262, fs_263, fs_264, fs_265, fs_266, fs_267, fs_268, fs_269, fs_270, fs_271, fs_272, fs_273, fs_274, fs_275, fs_276, fs_277, fs_278, fs_279, fs_280, fw_259, fz_259, bmap, mbind, mite, Option.map_some, Option.map_none, Option.bind_some, mgP, ih, fr_M_checkTimes_43 ih, fr_M_isSignAt, fr_M_isWordAt]
theorem fr_M_checkTimes_2 {μ ρ : Mem}    {n : Nat} {l2 : Int} : M_checkTimes_2 n (mg μ ρ) l2 = (M_checkTimes_2 n ρ l2).map (mg μ) := fr_M_checkTimes_2_x  _ _ _
theorem fr_M_checkTimes {μ ρ : Mem}  {a1 : Int}  : M_checkTimes (mg μ ρ) a1 = (M_checkTimes ρ a1).map (mg μ) := by
  unfold M_checkTimes
  simp only [mg_259, mg_260, mg_261, mg_262, mg_263, mg_264, mg_265, mg_266, mg_267, mg_268, mg_269, mg_270, mg_271, mg_272, mg_273, mg_274, mg_275, mg_276, mg_277, mg_278, mg_279, mg_280, fa_260, fa_261, fa_262, fa_263, fa_264, fa_265, fa_266, fa_267, fa_268, fa_269, fa_270, fa_271, fa_272, fa_273, fa_274, fa_275, fa_276, fa_277, fa_278, fa_279, fa_280, fs_260, fs_261, fs_262, fs_263, fs_264, fs_265, fs_266, fs_267, fs_268, fs_269, fs_270, fs_271, fs_272, fs_273, fs_274, fs_275, fs_276, fs_277, fs_278, fs_279, fs_280, fw_259, fz_259, bmap, mbind, mite, Option.map_some, Option.map_none, Option.bind_some, mgP, fr_M_checkTimes_2]
theorem fr_M_hasHeld_4_x {μ ρ : Mem}    : ∀ (n : Nat) (l1 : Int) (l2 : Int), M_hasHeld_4 (mg μ ρ) n l1 l2 = M_hasHeld_4 ρ n l1 l2 := by
  intro n
  induction n with
  | zero => intro l1 l2; rfl
  | succ n ih =>
    intro l1 l2
    rw [M_hasHeld_4, M_hasHeld_4]
    simp only [mg_259, mg_260, mg_261, mg_262, mg_263, mg_264, mg_265, mg_266, mg_267, mg_268, mg_269, mg_270, mg_271, mg_272, mg_273, mg_274, mg_275, mg_276, mg_277, mg_278, mg_279, mg_280, fa_260, fa_261, fa_262, fa_263, fa_264, fa_265, fa_266, fa_267, fa_268, fa_269, fa_270, fa_271, fa_272, fa_273, fa_274, fa_275, fa_276, fa_277, fa_278, fa_279, fa_280, fs_260, fs_261, fs_262, fs_263, fs_264, fs_265, fs_266, fs_267, fs_268, fs_269, fs_270, fs_271, fs_272, fs_273, fs_274, fs_275, fs_276, fs_277, fs_278, fs_279, fs_280, fw_259, fz_259, bmap, mbind, mite, Option.map_some, Option.map_none, Option.bind_some, mgP, ih]
theorem fr_M_hasHeld_4 {μ ρ : Mem}    {n : Nat} {l1 : Int} {l2 : Int} : M_hasHeld_4 (mg μ ρ) n l1 l2 = M_hasHeld_4 ρ n l1 l2 := fr_M_hasHeld_4_x  _ _ _
theorem fr_M_hasHeld {μ ρ : Mem}    : M_hasHeld (mg μ ρ) = M_hasHeld ρ := by
  unfold M_hasHeld
  simp only [mg_259, mg_260, mg_261, mg_262, mg_263, mg_264, mg_265, mg_266, mg_267, mg_268, mg_269, mg_270, mg_271, mg_272, mg_273, mg_274, mg_275, mg_276, mg_277, mg_278, mg_279, mg_280, fa_260, fa_261, fa_262, fa_263, fa_264, fa_265, fa_266, fa_267, fa_268, fa_269, fa_270, fa_271, fa_272, fa_273, fa_274, fa_275, fa_276, fa_277, fa_278, fa_279, fa_280, fs_260, fs_261, fs_262, fs_263, fs_264, fs_265, fs_266, fs_267, fs_268, fs_269, fs_270, fs_271, fs_272, fs_273, fs_274, fs_275, fs_276, fs_277, fs_278, fs_279, fs_280, fw_259, fz_259, bmap, mbind, mite, Option.map_some, Option.map_none, Option.bind_some, mgP, fr_M_hasHeld_4]
theorem fr_M_numberUpTo_4_x {μ ρ : Mem}  {l1 : Int}  : ∀ (n : Nat) (l2 : Int) (l3 : Int), M_numberUpTo_4 (mg μ ρ) l1 n l2 l3 = M_numberUpTo_4 ρ l1 n l2 l3 := by
  intro n
  induction n with
  | zero => intro l2 l3; rfl
  | succ n ih =>
    intro l2 l3
    rw [M_numberUpTo_4, M_numberUpTo_4]
    simp only [mg_259, mg_260, mg_261, mg_262, mg_263, mg_264, mg_265, mg_266, mg_267, mg_268, mg_269, mg_270, mg_271, mg_272, mg_273, mg_274, mg_275, mg_276, mg_277, mg_278, mg_279, mg_280, fa_260, fa_261, fa_262, fa_263, fa_264, fa_265, fa_266, fa_267, fa_268, fa_269, fa_270, fa_271, fa_272, fa_273, fa_274, fa_275, fa_276, fa_277, fa_278, fa_279, fa_280, fs_260, fs_261, fs_262, fs_263, fs_264, fs_265, fs_266, fs_267, fs_268, fs_269, fs_270, fs_271, fs_272, fs_273, fs_274, fs_275, fs_276, fs_277, fs_278, fs_279, fs_280, fw_259, fz_259, bmap, mbind, mite, Option.map_some, Option.map_none, Option.bind_some, mgP, ih, fr_M_cueNumber]
theorem fr_M_numberUpTo_4 {μ ρ : Mem}  {l1 : Int}  {n : Nat} {l2 : Int} {l3 : Int} : M_numberUpTo_4 (mg μ ρ) l1 n l2 l3 = M_numberUpTo_4 ρ l1 n l2 l3 := fr_M_numberUpTo_4_x  _ _ _
theorem fr_M_numberUpTo {μ ρ : Mem}  {a1 : Int}  : M_numberUpTo (mg μ ρ) a1 = M_numberUpTo ρ a1 := by
  unfold M_numberUpTo
  simp only [mg_259, mg_260, mg_261, mg_262, mg_263, mg_264, mg_265, mg_266, mg_267, mg_268, mg_269, mg_270, mg_271, mg_272, mg_273, mg_274, mg_275, mg_276, mg_277, mg_278, mg_279, mg_280, fa_260, fa_261, fa_262, fa_263, fa_264, fa_265, fa_266, fa_267, fa_268, fa_269, fa_270, fa_271, fa_272, fa_273, fa_274, fa_275, fa_276, fa_277, fa_278, fa_279, fa_280, fs_260, fs_261, fs_262, fs_263, fs_264, fs_265, fs_266, fs_267, fs_268, fs_269, fs_270, fs_271, fs_272, fs_273, fs_274, fs_275, fs_276, fs_277, fs_278, fs_279, fs_280, fw_259, fz_259, bmap, mbind, mite, Option.map_some, Option.map_none, Option.bind_some, mgP, fr_M_numberUpTo_4]
theorem fr_M_checkOther_45 {μ ρ : Mem}  {s1 : Int}  : M_checkOther_45 (mg μ ρ) s1 = (M_checkOther_45 ρ s1).map (mg μ) := by
  unfold M_checkOther_45
  simp only [mg_259, mg_260, mg_261, mg_262, mg_263, mg_264, mg_265, mg_266, mg_267, mg_268, mg_269, mg_270, mg_271, mg_272, mg_273, mg_274, mg_275, mg_276, mg_277, mg_278, mg_279, mg_280, fa_260, fa_261, fa_262, fa_263, fa_264, fa_265, fa_266, fa_267, fa_268, fa_269, fa_270, fa_271, fa_272, fa_273, fa_274, fa_275, fa_276, fa_277, fa_278, fa_279, fa_280, fs_260, fs_261, fs_262, fs_263, fs_264, fs_265, fs_266, fs_267, fs_268, fs_269, fs_270, fs_271, fs_272, fs_273, fs_274, fs_275, fs_276, fs_277, fs_278, fs_279, fs_280, fw_259, fz_259, bmap, mbind, mite, Option.map_some, Option.map_none, Option.bind_some, mgP, fr_M_bounds, fr_M_refuse]
theorem fr_M_checkOther {μ ρ : Mem}  {a1 : Int}  : M_checkOther (mg μ ρ) a1 = (M_checkOther ρ a1).map (mg μ) := by
  unfold M_checkOther
  simp only [mg_259, mg_260, mg_261, mg_262, mg_263, mg_264, mg_265, mg_266, mg_267, mg_268, mg_269, mg_270, mg_271, mg_272, mg_273, mg_274, mg_275, mg_276, mg_277, mg_278, mg_279, mg_280, fa_260, fa_261, fa_262, fa_263, fa_264, fa_265, fa_266, fa_267, fa_268, fa_269, fa_270, fa_271, fa_272, fa_273, fa_274, fa_275, fa_276, fa_277, fa_278, fa_279, fa_280, fs_260, fs_261, fs_262, fs_263, fs_264, fs_265, fs_266, fs_267, fs_268, fs_269, fs_270, fs_271, fs_272, fs_273, fs_274, fs_275, fs_276, fs_277, fs_278, fs_279, fs_280, fw_259, fz_259, bmap, mbind, mite, Option.map_some, Option.map_none, Option.bind_some, mgP, fr_M_bounds, fr_M_checkOther_45, fr_M_checkSet, fr_M_hasHeld, fr_M_isWordAt]
theorem fr_M_checkCue_90 {μ ρ : Mem}  {s1 : Int}  : M_checkCue_90 (mg μ ρ) s1 = (M_checkCue_90 ρ s1).map (mg μ) := by
  unfold M_checkCue_90
  simp only [mg_259, mg_260, mg_261, mg_262, mg_263, mg_264, mg_265, mg_266, mg_267, mg_268, mg_269, mg_270, mg_271, mg_272, mg_273, mg_274, mg_275, mg_276, mg_277, mg_278, mg_279, mg_280, fa_260, fa_261, fa_262, fa_263, fa_264, fa_265, fa_266, fa_267, fa_268, fa_269, fa_270, fa_271, fa_272, fa_273, fa_274, fa_275, fa_276, fa_277, fa_278, fa_279, fa_280, fs_260, fs_261, fs_262, fs_263, fs_264, fs_265, fs_266, fs_267, fs_268, fs_269, fs_270, fs_271, fs_272, fs_273, fs_274, fs_275, fs_276, fs_277, fs_278, fs_279, fs_280, fw_259, fz_259, bmap, mbind, mite, Option.map_some, Option.map_none, Option.bind_some, mgP, fr_M_checkNumber, fr_M_checkTimes, fr_M_refuse]
theorem fr_M_checkCue_152 {μ ρ : Mem}  {s1 : Int}  : M_checkCue_152 (mg μ ρ) s1 = (M_checkCue_152 ρ s1).map (mg μ) := by
  unfold M_checkCue_152
  simp only [mg_259, mg_260, mg_261, mg_262, mg_263, mg_264, mg_265, mg_266, mg_267, mg_268, mg_269, mg_270, mg_271, mg_272, mg_273, mg_274, mg_275, mg_276, mg_277, mg_278, mg_279, mg_280, fa_260, fa_261, fa_262, fa_263, fa_264, fa_265, fa_266, fa_267, fa_268, fa_269, fa_270, fa_271, fa_272, fa_273, fa_274, fa_275, fa_276, fa_277, fa_278, fa_279, fa_280, fs_260, fs_261, fs_262, fs_263, fs_264, fs_265, fs_266, fs_267, fs_268, fs_269, fs_270, fs_271, fs_272, fs_273, fs_274, fs_275, fs_276, fs_277, fs_278, fs_279, fs_280, fw_259, fz_259, bmap, mbind, mite, Option.map_some, Option.map_none, Option.bind_some, mgP, fr_M_refuse]
theorem fr_M_checkCue_122 {μ ρ : Mem}  {s1 : Int}  : M_checkCue_122 (mg μ ρ) s1 = (M_checkCue_122 ρ s1).map (mg μ) := by
  unfold M_checkCue_122
  simp only [mg_259, mg_260, mg_261, mg_262, mg_263, mg_264, mg_265, mg_266, mg_267, mg_268, mg_269, mg_270, mg_271, mg_272, mg_273, mg_274, mg_275, mg_276, mg_277, mg_278, mg_279, mg_280, fa_260, fa_261, fa_262, fa_263, fa_264, fa_265, fa_266, fa_267, fa_268, fa_269, fa_270, fa_271, fa_272, fa_273, fa_274, fa_275, fa_276, fa_277, fa_278, fa_279, fa_280, fs_260, fs_261, fs_262, fs_263, fs_264, fs_265, fs_266, fs_267, fs_268, fs_269, fs_270, fs_271, fs_272, fs_273, fs_274, fs_275, fs_276, fs_277, fs_278, fs_279, fs_280, fw_259, fz_259, bmap, mbind, mite, Option.map_some, Option.map_none, Option.bind_some, mgP, fr_M_checkCue_152, fr_M_numberUpTo, fr_M_refuse]
theorem fr_M_checkCue_180 {μ ρ : Mem}  {s1 : Int}  : M_checkCue_180 (mg μ ρ) s1 = (M_checkCue_180 ρ s1).map (mg μ) := by
  unfold M_checkCue_180
  simp only [mg_259, mg_260, mg_261, mg_262, mg_263, mg_264, mg_265, mg_266, mg_267, mg_268, mg_269, mg_270, mg_271, mg_272, mg_273, mg_274, mg_275, mg_276, mg_277, mg_278, mg_279, mg_280, fa_260, fa_261, fa_262, fa_263, fa_264, fa_265, fa_266, fa_267, fa_268, fa_269, fa_270, fa_271, fa_272, fa_273, fa_274, fa_275, fa_276, fa_277, fa_278, fa_279, fa_280, fs_260, fs_261, fs_262, fs_263, fs_264, fs_265, fs_266, fs_267, fs_268, fs_269, fs_270, fs_271, fs_272, fs_273, fs_274, fs_275, fs_276, fs_277, fs_278, fs_279, fs_280, fw_259, fz_259, bmap, mbind, mite, Option.map_some, Option.map_none, Option.bind_some, mgP, fr_M_refuse]
theorem fr_M_checkCue_161 {μ ρ : Mem}    : M_checkCue_161 (mg μ ρ) = (M_checkCue_161 ρ).map (mg μ) := by
  unfold M_checkCue_161
  simp only [mg_259, mg_260, mg_261, mg_262, mg_263, mg_264, mg_265, mg_266, mg_267, mg_268, mg_269, mg_270, mg_271, mg_272, mg_273, mg_274, mg_275, mg_276, mg_277, mg_278, mg_279, mg_280, fa_260, fa_261, fa_262, fa_263, fa_264, fa_265, fa_266, fa_267, fa_268, fa_269, fa_270, fa_271, fa_272, fa_273, fa_274, fa_275, fa_276, fa_277, fa_278, fa_279, fa_280, fs_260, fs_261, fs_262, fs_263, fs_264, fs_265, fs_266, fs_267, fs_268, fs_269, fs_270, fs_271, fs_272, fs_273, fs_274, fs_275, fs_276, fs_277, fs_278, fs_279, fs_280, fw_259, fz_259, bmap, mbind, mite, Option.map_some, Option.map_none, Option.bind_some, mgP, fr_M_checkCue_180, fr_M_cueRow]
theorem fr_M_checkCue_261 {μ ρ : Mem}  {s1 : Int}  : M_checkCue_261 (mg μ ρ) s1 = (M_checkCue_261 ρ s1).map (mg μ) := by
  unfold M_checkCue_261
  simp only [mg_259, mg_260, mg_261, mg_262, mg_263, mg_264, mg_265, mg_266, mg_267, mg_268, mg_269, mg_270, mg_271, mg_272, mg_273, mg_274, mg_275, mg_276, mg_277, mg_278, mg_279, mg_280, fa_260, fa_261, fa_262, fa_263, fa_264, fa_265, fa_266, fa_267, fa_268, fa_269, fa_270, fa_271, fa_272, fa_273, fa_274, fa_275, fa_276, fa_277, fa_278, fa_279, fa_280, fs_260, fs_261, fs_262, fs_263, fs_264, fs_265, fs_266, fs_267, fs_268, fs_269, fs_270, fs_271, fs_272, fs_273, fs_274, fs_275, fs_276, fs_277, fs_278, fs_279, fs_280, fw_259, fz_259, bmap, mbind, mite, Option.map_some, Option.map_none, Option.bind_some, mgP, fr_M_refuse]
theorem fr_M_checkCue_240 {μ ρ : Mem}  {s1 : Int}  : M_checkCue_240 (mg μ ρ) s1 = (M_checkCue_240 ρ s1).map (mg μ) := by
  unfold M_checkCue_240
  simp only [mg_259, mg_260, mg_261, mg_262, mg_263, mg_264, mg_265, mg_266, mg_267, mg_268, mg_269, mg_270, mg_271, mg_272, mg_273, mg_274, mg_275, mg_276, mg_277, mg_278, mg_279, mg_280, fa_260, fa_261, fa_262, fa_263, fa_264, fa_265, fa_266, fa_267, fa_268, fa_269, fa_270, fa_271, fa_272, fa_273, fa_274, fa_275, fa_276, fa_277, fa_278, fa_279, fa_280, fs_260, fs_261, fs_262, fs_263, fs_264, fs_265, fs_266, fs_267, fs_268, fs_269, fs_270, fs_271, fs_272, fs_273, fs_274, fs_275, fs_276, fs_277, fs_278, fs_279, fs_280, fw_259, fz_259, bmap, mbind, mite, Option.map_some, Option.map_none, Option.bind_some, mgP, fr_M_checkCue_261, fr_M_cues, fr_M_refuse]
theorem fr_M_checkCue_207 {μ ρ : Mem}  {s1 : Int}  : M_checkCue_207 (mg μ ρ) s1 = (M_checkCue_207 ρ s1).map (mg μ) := by
  unfold M_checkCue_207
  simp only [mg_259, mg_260, mg_261, mg_262, mg_263, mg_264, mg_265, mg_266, mg_267, mg_268, mg_269, mg_270, mg_271, mg_272, mg_273, mg_274, mg_275, mg_276, mg_277, mg_278, mg_279, mg_280, fa_260, fa_261, fa_262, fa_263, fa_264, fa_265, fa_266, fa_267, fa_268, fa_269, fa_270, fa_271, fa_272, fa_273, fa_274, fa_275, fa_276, fa_277, fa_278, fa_279, fa_280, fs_260, fs_261, fs_262, fs_263, fs_264, fs_265, fs_266, fs_267, fs_268, fs_269, fs_270, fs_271, fs_272, fs_273, fs_274, fs_275, fs_276, fs_277, fs_278, fs_279, fs_280, fw_259, fz_259, bmap, mbind, mite, Option.map_some, Option.map_none, Option.bind_some, mgP, fr_M_bounds, fr_M_checkCue_240, fr_M_cueRow, fr_M_refuse]
theorem fr_M_checkCue_272 {μ ρ : Mem}  {l1 : Int}  : M_checkCue_272 (mg μ ρ) l1 = (M_checkCue_272 ρ l1).map (mg μ) := by
  unfold M_checkCue_272
  simp only [mg_259, mg_260, mg_261, mg_262, mg_263, mg_264, mg_265, mg_266, mg_267, mg_268, mg_269, mg_270, mg_271, mg_272, mg_273, mg_274, mg_275, mg_276, mg_277, mg_278, mg_279, mg_280, fa_260, fa_261, fa_262, fa_263, fa_264, fa_265, fa_266, fa_267, fa_268, fa_269, fa_270, fa_271, fa_272, fa_273, fa_274, fa_275, fa_276, fa_277, fa_278, fa_279, fa_280, fs_260, fs_261, fs_262, fs_263, fs_264, fs_265, fs_266, fs_267, fs_268, fs_269, fs_270, fs_271, fs_272, fs_273, fs_274, fs_275, fs_276, fs_277, fs_278, fs_279, fs_280, fw_259, fz_259, bmap, mbind, mite, Option.map_some, Option.map_none, Option.bind_some, mgP, fr_M_checkOther]
theorem fr_M_checkCue {μ ρ : Mem}  {a1 : Int}  : M_checkCue (mg μ ρ) a1 = (M_checkCue ρ a1).map (mg μ) := by
  unfold M_checkCue
  simp only [mg_259, mg_260, mg_261, mg_262, mg_263, mg_264, mg_265, mg_266, mg_267, mg_268, mg_269, mg_270, mg_271, mg_272, mg_273, mg_274, mg_275, mg_276, mg_277, mg_278, mg_279, mg_280, fa_260, fa_261, fa_262, fa_263, fa_264, fa_265, fa_266, fa_267, fa_268, fa_269, fa_270, fa_271, fa_272, fa_273, fa_274, fa_275, fa_276, fa_277, fa_278, fa_279, fa_280, fs_260, fs_261, fs_262, fs_263, fs_264, fs_265, fs_266, fs_267, fs_268, fs_269, fs_270, fs_271, fs_272, fs_273, fs_274, fs_275, fs_276, fs_277, fs_278, fs_279, fs_280, fw_259, fz_259, bmap, mbind, mite, Option.map_some, Option.map_none, Option.bind_some, mgP, fr_M_checkCue_122, fr_M_checkCue_161, fr_M_checkCue_207, fr_M_checkCue_272, fr_M_checkCue_90, fr_M_checkNumber, fr_M_checkTimes, fr_M_cueRow, fr_M_hasHeld]
theorem fr_M_check_158_x {μ : Mem}    : ∀ (n : Nat) (ρ : Mem) (l2 : Int), M_check_158 n (mg μ ρ) l2 = (M_check_158 n ρ l2).map (mg μ) := by
  intro n
  induction n with
  | zero => intro ρ l2; rfl
  | succ n ih =>
    intro ρ l2
    rw [M_check_158, M_check_158]
    simp only [mg_259, mg_260, mg_261, mg_262, mg_263, mg_264, mg_265, mg_266, mg_267, mg_268, mg_269, mg_270, mg_271, mg_272, mg_273, mg_274, mg_275, mg_276, mg_277, mg_278, mg_279, mg_280, fa_260, fa_261, fa_262, fa_263, fa_264, fa_265, fa_266, fa_267, fa_268, fa_269, fa_270, fa_271, fa_272, fa_273, fa_274, fa_275, fa_276, fa_277, fa_278, fa_279, fa_280, fs_260, fs_261, fs_262, fs_263, fs_264, fs_265, fs_266, fs_267, fs_268, fs_269, fs_270, fs_271, fs_272, fs_273, fs_274, fs_275, fs_276, fs_277, fs_278, fs_279, fs_280, fw_259, fz_259, bmap, mbind, mite, Option.map_some, Option.map_none, Option.bind_some, mgP, ih, fr_M_bounds, fr_M_isParameterAt]
theorem fr_M_check_158 {μ ρ : Mem}    {n : Nat} {l2 : Int} : M_check_158 n (mg μ ρ) l2 = (M_check_158 n ρ l2).map (mg μ) := fr_M_check_158_x  _ _ _
theorem fr_M_check_267 {μ ρ : Mem}    : M_check_267 (mg μ ρ) = (M_check_267 ρ).map (mg μ) := by
  unfold M_check_267
  simp only [mg_259, mg_260, mg_261, mg_262, mg_263, mg_264, mg_265, mg_266, mg_267, mg_268, mg_269, mg_270, mg_271, mg_272, mg_273, mg_274, mg_275, mg_276, mg_277, mg_278, mg_279, mg_280, fa_260, fa_261, fa_262, fa_263, fa_264, fa_265, fa_266, fa_267, fa_268, fa_269, fa_270, fa_271, fa_272, fa_273, fa_274, fa_275, fa_276, fa_277, fa_278, fa_279, fa_280, fs_260, fs_261, fs_262, fs_263, fs_264, fs_265, fs_266, fs_267, fs_268, fs_269, fs_270, fs_271, fs_272, fs_273, fs_274, fs_275, fs_276, fs_277, fs_278, fs_279, fs_280, fw_259, fz_259, bmap, mbind, mite, Option.map_some, Option.map_none, Option.bind_some, mgP, fr_M_gather, fr_M_isWordAt]
theorem fr_M_check_236_x {μ : Mem}    : ∀ (n : Nat) (ρ : Mem) (l2 : Int), M_check_236 n (mg μ ρ) l2 = (M_check_236 n ρ l2).map (mg μ) := by
  intro n
  induction n with
  | zero => intro ρ l2; rfl
  | succ n ih =>
    intro ρ l2
    rw [M_check_236, M_check_236]
    simp only [mg_259, mg_260, mg_261, mg_262, mg_263, mg_264, mg_265, mg_266, mg_267, mg_268, mg_269, mg_270, mg_271, mg_272, mg_273, mg_274, mg_275, mg_276, mg_277, mg_278, mg_279, mg_280, fa_260, fa_261, fa_262, fa_263, fa_264, fa_265, fa_266, fa_267, fa_268, fa_269, fa_270, fa_271, fa_272, fa_273, fa_274, fa_275, fa_276, fa_277, fa_278, fa_279, fa_280, fs_260, fs_261, fs_262, fs_263, fs_264, fs_265, fs_266, fs_267, fs_268, fs_269, fs_270, fs_271, fs_272, fs_273, fs_274, fs_275, fs_276, fs_277, fs_278, fs_279, fs_280, fw_259, fz_259, bmap, mbind, mite, Option.map_some, Option.map_none, Option.bind_some, mgP, ih, fr_M_bounds, fr_M_check_267, fr_M_isWordAt]
theorem fr_M_check_236 {μ ρ : Mem}    {n : Nat} {l2 : Int} : M_check_236 n (mg μ ρ) l2 = (M_check_236 n ρ l2).map (mg μ) := fr_M_check_236_x  _ _ _
theorem fr_M_check_286 {μ ρ : Mem}  {l1 : Int}  : M_check_286 (mg μ ρ) l1 = (M_check_286 ρ l1).map (mg μ) := by
  unfold M_check_286
  simp only [mg_259, mg_260, mg_261, mg_262, mg_263, mg_264, mg_265, mg_266, mg_267, mg_268, mg_269, mg_270, mg_271, mg_272, mg_273, mg_274, mg_275, mg_276, mg_277, mg_278, mg_279, mg_280, fa_260, fa_261, fa_262, fa_263, fa_264, fa_265, fa_266, fa_267, fa_268, fa_269, fa_270, fa_271, fa_272, fa_273, fa_274, fa_275, fa_276, fa_277, fa_278, fa_279, fa_280, fs_260, fs_261, fs_262, fs_263, fs_264, fs_265, fs_266, fs_267, fs_268, fs_269, fs_270, fs_271, fs_272, fs_273, fs_274, fs_275, fs_276, fs_277, fs_278, fs_279, fs_280, fw_259, fz_259, bmap, mbind, mite, Option.map_some, Option.map_none, Option.bind_some, mgP, fr_M_checkCue]
theorem fr_M_check_20 {μ ρ : Mem}  {s0 : Int}  : M_check_20 (mg μ ρ) s0 = (M_check_20 ρ s0).map (mg μ) := by
  unfold M_check_20
  simp only [mg_259, mg_260, mg_261, mg_262, mg_263, mg_264, mg_265, mg_266, mg_267, mg_268, mg_269, mg_270, mg_271, mg_272, mg_273, mg_274, mg_275, mg_276, mg_277, mg_278, mg_279, mg_280, fa_260, fa_261, fa_262, fa_263, fa_264, fa_265, fa_266, fa_267, fa_268, fa_269, fa_270, fa_271, fa_272, fa_273, fa_274, fa_275, fa_276, fa_277, fa_278, fa_279, fa_280, fs_260, fs_261, fs_262, fs_263, fs_264, fs_265, fs_266, fs_267, fs_268, fs_269, fs_270, fs_271, fs_272, fs_273, fs_274, fs_275, fs_276, fs_277, fs_278, fs_279, fs_280, fw_259, fz_259, bmap, mbind, mite, Option.map_some, Option.map_none, Option.bind_some, mgP, fr_M_bounds, fr_M_checkPatch, fr_M_checkSet, fr_M_check_158, fr_M_check_236, fr_M_check_286, fr_M_gather, fr_M_isSignAt, fr_M_isWordAt]
theorem fr_M_check {μ ρ : Mem}    : M_check (mg μ ρ) = (M_check ρ).map (mg μ) := by
  unfold M_check
  simp only [mg_259, mg_260, mg_261, mg_262, mg_263, mg_264, mg_265, mg_266, mg_267, mg_268, mg_269, mg_270, mg_271, mg_272, mg_273, mg_274, mg_275, mg_276, mg_277, mg_278, mg_279, mg_280, fa_260, fa_261, fa_262, fa_263, fa_264, fa_265, fa_266, fa_267, fa_268, fa_269, fa_270, fa_271, fa_272, fa_273, fa_274, fa_275, fa_276, fa_277, fa_278, fa_279, fa_280, fs_260, fs_261, fs_262, fs_263, fs_264, fs_265, fs_266, fs_267, fs_268, fs_269, fs_270, fs_271, fs_272, fs_273, fs_274, fs_275, fs_276, fs_277, fs_278, fs_279, fs_280, fw_259, fz_259, bmap, mbind, mite, Option.map_some, Option.map_none, Option.bind_some, mgP, fr_M_check_20]
theorem fr_M_patch_161 {μ ρ : Mem} {K81 J81 : Mem → Int → Option (Mem)} {l1 : Int} {l2 : Int} (hK81 : ∀ (ρ : Mem) (l2 : Int), K81 (mg μ ρ) l2 = (J81 ρ l2).map (mg μ)) : M_patch_161 K81 (mg μ ρ) l1 l2 = (M_patch_161 J81 ρ l1 l2).map (mg μ) := by
  unfold M_patch_161
  simp only [mg_259, mg_260, mg_261, mg_262, mg_263, mg_264, mg_265, mg_266, mg_267, mg_268, mg_269, mg_270, mg_271, mg_272, mg_273, mg_274, mg_275, mg_276, mg_277, mg_278, mg_279, mg_280, fa_260, fa_261, fa_262, fa_263, fa_264, fa_265, fa_266, fa_267, fa_268, fa_269, fa_270, fa_271, fa_272, fa_273, fa_274, fa_275, fa_276, fa_277, fa_278, fa_279, fa_280, fs_260, fs_261, fs_262, fs_263, fs_264, fs_265, fs_266, fs_267, fs_268, fs_269, fs_270, fs_271, fs_272, fs_273, fs_274, fs_275, fs_276, fs_277, fs_278, fs_279, fs_280, fw_259, fz_259, bmap, mbind, mite, Option.map_some, Option.map_none, Option.bind_some, mgP, hK81, fr_M_isWordAt]
theorem fr_M_patch_142 {μ ρ : Mem} {K81 J81 : Mem → Int → Option (Mem)} {l1 : Int} {l2 : Int} (hK81 : ∀ (ρ : Mem) (l2 : Int), K81 (mg μ ρ) l2 = (J81 ρ l2).map (mg μ)) : M_patch_142 K81 (mg μ ρ) l1 l2 = (M_patch_142 J81 ρ l1 l2).map (mg μ) := by
  unfold M_patch_142
  simp only [mg_259, mg_260, mg_261, mg_262, mg_263, mg_264, mg_265, mg_266, mg_267, mg_268, mg_269, mg_270, mg_271, mg_272, mg_273, mg_274, mg_275, mg_276, mg_277, mg_278, mg_279, mg_280, fa_260, fa_261, fa_262, fa_263, fa_264, fa_265, fa_266, fa_267, fa_268, fa_269, fa_270, fa_271, fa_272, fa_273, fa_274, fa_275, fa_276, fa_277, fa_278, fa_279, fa_280, fs_260, fs_261, fs_262, fs_263, fs_264, fs_265, fs_266, fs_267, fs_268, fs_269, fs_270, fs_271, fs_272, fs_273, fs_274, fs_275, fs_276, fs_277, fs_278, fs_279, fs_280, fw_259, fz_259, bmap, mbind, mite, Option.map_some, Option.map_none, Option.bind_some, mgP, hK81, fr_M_isWordAt, fr_M_patch_161 hK81]
theorem fr_M_patch_116 {μ ρ : Mem} {K81 J81 : Mem → Int → Option (Mem)} {l1 : Int} {l2 : Int} (hK81 : ∀ (ρ : Mem) (l2 : Int), K81 (mg μ ρ) l2 = (J81 ρ l2).map (mg μ)) : M_patch_116 K81 (mg μ ρ) l1 l2 = (M_patch_116 J81 ρ l1 l2).map (mg μ) := by
  unfold M_patch_116
  simp only [mg_259, mg_260, mg_261, mg_262, mg_263, mg_264, mg_265, mg_266, mg_267, mg_268, mg_269, mg_270, mg_271, mg_272, mg_273, mg_274, mg_275, mg_276, mg_277, mg_278, mg_279, mg_280, fa_260, fa_261, fa_262, fa_263, fa_264, fa_265, fa_266, fa_267, fa_268, fa_269, fa_270, fa_271, fa_272, fa_273, fa_274, fa_275, fa_276, fa_277, fa_278, fa_279, fa_280, fs_260, fs_261, fs_262, fs_263, fs_264, fs_265, fs_266, fs_267, fs_268, fs_269, fs_270, fs_271, fs_272, fs_273, fs_274, fs_275, fs_276, fs_277, fs_278, fs_279, fs_280, fw_259, fz_259, bmap, mbind, mite, Option.map_some, Option.map_none, Option.bind_some, mgP, hK81, fr_M_isWordAt, fr_M_patch_142 hK81]
theorem fr_M_patch_81_x {μ : Mem}  {l1 : Int}  : ∀ (n : Nat) (ρ : Mem) (l2 : Int), M_patch_81 l1 n (mg μ ρ) l2 = (M_patch_81 l1 n ρ l2).map (mg μ) := by
  intro n
  induction n with
  | zero => intro ρ l2; rfl
  | succ n ih =>
    intro ρ l2
    rw [M_patch_81, M_patch_81]
    simp only [mg_259, mg_260, mg_261, mg_262, mg_263, mg_264, mg_265, mg_266, mg_267, mg_268, mg_269, mg_270, mg_271, mg_272, mg_273, mg_274, mg_275, mg_276, mg_277, mg_278, mg_279, mg_280, fa_260, fa_261, fa_262, fa_263, fa_264, fa_265, fa_266, fa_267, fa_268, fa_269, fa_270, fa_271, fa_272, fa_273, fa_274, fa_275, fa_276, fa_277, fa_278, fa_279, fa_280, fs_260, fs_261, fs_262, fs_263, fs_264, fs_265, fs_266, fs_267, fs_268, fs_269, fs_270, fs_271, fs_272, fs_273, fs_274, fs_275, fs_276, fs_277, fs_278, fs_279, fs_280, fw_259, fz_259, bmap, mbind, mite, Option.map_some, Option.map_none, Option.bind_some, mgP, ih, fr_M_isSignAt, fr_M_isWordAt, fr_M_patch_116 ih]
theorem fr_M_patch_81 {μ ρ : Mem}  {l1 : Int}  {n : Nat} {l2 : Int} : M_patch_81 l1 n (mg μ ρ) l2 = (M_patch_81 l1 n ρ l2).map (mg μ) := fr_M_patch_81_x  _ _ _
theorem fr_M_patch {μ ρ : Mem}    : M_patch (mg μ ρ) = (M_patch ρ).map (mg μ) := by
  unfold M_patch
  simp only [mg_259, mg_260, mg_261, mg_262, mg_263, mg_264, mg_265, mg_266, mg_267, mg_268, mg_269, mg_270, mg_271, mg_272, mg_273, mg_274, mg_275, mg_276, mg_277, mg_278, mg_279, mg_280, fa_260, fa_261, fa_262, fa_263, fa_264, fa_265, fa_266, fa_267, fa_268, fa_269, fa_270, fa_271, fa_272, fa_273, fa_274, fa_275, fa_276, fa_277, fa_278, fa_279, fa_280, fs_260, fs_261, fs_262, fs_263, fs_264, fs_265, fs_266, fs_267, fs_268, fs_269, fs_270, fs_271, fs_272, fs_273, fs_274, fs_275, fs_276, fs_277, fs_278, fs_279, fs_280, fw_259, fz_259, bmap, mbind, mite, Option.map_some, Option.map_none, Option.bind_some, mgP, fr_M_patch_81]
theorem fr_M_takeAway_13_x {μ : Mem}  {l1 : Int} {l2 : Int} {l4 : Int}  : ∀ (n : Nat) (ρ : Mem) (l3 : Int) (l5 : Int), M_takeAway_13 l1 l2 l4 n (mg μ ρ) l3 l5 = (M_takeAway_13 l1 l2 l4 n ρ l3 l5).map (mg μ) := by
  intro n
  induction n with
  | zero => intro ρ l3 l5; rfl
  | succ n ih =>
    intro ρ l3 l5
    rw [M_takeAway_13, M_takeAway_13]
    simp only [mg_259, mg_260, mg_261, mg_262, mg_263, mg_264, mg_265, mg_266, mg_267, mg_268, mg_269, mg_270, mg_271, mg_272, mg_273, mg_274, mg_275, mg_276, mg_277, mg_278, mg_279, mg_280, fa_260, fa_261, fa_262, fa_263, fa_264, fa_265, fa_266, fa_267, fa_268, fa_269, fa_270, fa_271, fa_272, fa_273, fa_274, fa_275, fa_276, fa_277, fa_278, fa_279, fa_280, fs_260, fs_261, fs_262, fs_263, fs_264, fs_265, fs_266, fs_267, fs_268, fs_269, fs_270, fs_271, fs_272, fs_273, fs_274, fs_275, fs_276, fs_277, fs_278, fs_279, fs_280, fw_259, fz_259, bmap, mbind, mite, Option.map_some, Option.map_none, Option.bind_some, mgP, ih]
theorem fr_M_takeAway_13 {μ ρ : Mem}  {l1 : Int} {l2 : Int} {l4 : Int}  {n : Nat} {l3 : Int} {l5 : Int} : M_takeAway_13 l1 l2 l4 n (mg μ ρ) l3 l5 = (M_takeAway_13 l1 l2 l4 n ρ l3 l5).map (mg μ) := fr_M_takeAway_13_x  _ _ _ _
theorem fr_M_takeAway {μ ρ : Mem}  {a1 : Int} {a2 : Int}  : M_takeAway (mg μ ρ) a1 a2 = (M_takeAway ρ a1 a2).map (mg μ) := by
  unfold M_takeAway
  simp only [mg_259, mg_260, mg_261, mg_262, mg_263, mg_264, mg_265, mg_266, mg_267, mg_268, mg_269, mg_270, mg_271, mg_272, mg_273, mg_274, mg_275, mg_276, mg_277, mg_278, mg_279, mg_280, fa_260, fa_261, fa_262, fa_263, fa_264, fa_265, fa_266, fa_267, fa_268, fa_269, fa_270, fa_271, fa_272, fa_273, fa_274, fa_275, fa_276, fa_277, fa_278, fa_279, fa_280, fs_260, fs_261, fs_262, fs_263, fs_264, fs_265, fs_266, fs_267, fs_268, fs_269, fs_270, fs_271, fs_272, fs_273, fs_274, fs_275, fs_276, fs_277, fs_278, fs_279, fs_280, fw_259, fz_259, bmap, mbind, mite, Option.map_some, Option.map_none, Option.bind_some, mgP, fr_M_takeAway_13]
theorem fr_M_unpatch_100 {μ ρ : Mem} {K69 J69 : Mem → Int → Option (Mem)} {l1 : Int} {l2 : Int} {l3 : Int} (hK69 : ∀ (ρ : Mem) (l2 : Int), K69 (mg μ ρ) l2 = (J69 ρ l2).map (mg μ)) : M_unpatch_100 K69 (mg μ ρ) l1 l2 l3 = (M_unpatch_100 J69 ρ l1 l2 l3).map (mg μ) := by
  unfold M_unpatch_100
  simp only [mg_259, mg_260, mg_261, mg_262, mg_263, mg_264, mg_265, mg_266, mg_267, mg_268, mg_269, mg_270, mg_271, mg_272, mg_273, mg_274, mg_275, mg_276, mg_277, mg_278, mg_279, mg_280, fa_260, fa_261, fa_262, fa_263, fa_264, fa_265, fa_266, fa_267, fa_268, fa_269, fa_270, fa_271, fa_272, fa_273, fa_274, fa_275, fa_276, fa_277, fa_278, fa_279, fa_280, fs_260, fs_261, fs_262, fs_263, fs_264, fs_265, fs_266, fs_267, fs_268, fs_269, fs_270, fs_271, fs_272, fs_273, fs_274, fs_275, fs_276, fs_277, fs_278, fs_279, fs_280, fw_259, fz_259, bmap, mbind, mite, Option.map_some, Option.map_none, Option.bind_some, mgP, hK69]
theorem fr_M_unpatch_143_x {μ : Mem} {K135 J135 : Mem → Int → Option (Mem)} {l1 : Int} {l2 : Int} (hK135 : ∀ (ρ : Mem) (l2 : Int), K135 (mg μ ρ) l2 = (J135 ρ l2).map (mg μ)) : ∀ (n : Nat) (ρ : Mem) (l3 : Int), M_unpatch_143 K135 l1 l2 n (mg μ ρ) l3 = (M_unpatch_143 J135 l1 l2 n ρ l3).map (mg μ) := by
  intro n
  induction n with
  | zero => intro ρ l3; rfl
  | succ n ih =>
    intro ρ l3
    rw [M_unpatch_143, M_unpatch_143]
    simp only [mg_259, mg_260, mg_261, mg_262, mg_263, mg_264, mg_265, mg_266, mg_267, mg_268, mg_269, mg_270, mg_271, mg_272, mg_273, mg_274, mg_275, mg_276, mg_277, mg_278, mg_279, mg_280, fa_260, fa_261, fa_262, fa_263, fa_264, fa_265, fa_266, fa_267, fa_268, fa_269, fa_270, fa_271, fa_272, fa_273, fa_274, fa_275, fa_276, fa_277, fa_278, fa_279, fa_280, fs_260, fs_261, fs_262, fs_263, fs_264, fs_265, fs_266, fs_267, fs_268, fs_269, fs_270, fs_271, fs_272, fs_273, fs_274, fs_275, fs_276, fs_277, fs_278, fs_279, fs_280, fw_259, fz_259, bmap, mbind, mite, Option.map_some, Option.map_none, Option.bind_some, mgP, ih, hK135]
theorem fr_M_unpatch_143 {μ ρ : Mem} {K135 J135 : Mem → Int → Option (Mem)} {l1 : Int} {l2 : Int} (hK135 : ∀ (ρ : Mem) (l2 : Int), K135 (mg μ ρ) l2 = (J135 ρ l2).map (mg μ)) {n : Nat} {l3 : Int} : M_unpatch_143 K135 l1 l2 n (mg μ ρ) l3 = (M_unpatch_143 J135 l1 l2 n ρ l3).map (mg μ) := fr_M_unpatch_143_x hK135 _ _ _
theorem fr_M_unpatch_135_x {μ : Mem}  {l1 : Int}  : ∀ (n : Nat) (ρ : Mem) (l2 : Int), M_unpatch_135 l1 n (mg μ ρ) l2 = (M_unpatch_135 l1 n ρ l2).map (mg μ) := by
  intro n
  induction n with
  | zero => intro ρ l2; rfl
  | succ n ih =>
    intro ρ l2
    rw [M_unpatch_135, M_unpatch_135]
    simp only [mg_259, mg_260, mg_261, mg_262, mg_263, mg_264, mg_265, mg_266, mg_267, mg_268, mg_269, mg_270, mg_271, mg_272, mg_273, mg_274, mg_275, mg_276, mg_277, mg_278, mg_279, mg_280, fa_260, fa_261, fa_262, fa_263, fa_264, fa_265, fa_266, fa_267, fa_268, fa_269, fa_270, fa_271, fa_272, fa_273, fa_274, fa_275, fa_276, fa_277, fa_278, fa_279, fa_280, fs_260, fs_261, fs_262, fs_263, fs_264, fs_265, fs_266, fs_267, fs_268, fs_269, fs_270, fs_271, fs_272, fs_273, fs_274, fs_275, fs_276, fs_277, fs_278, fs_279, fs_280, fw_259, fz_259, bmap, mbind, mite, Option.map_some, Option.map_none, Option.bind_some, mgP, ih, fr_M_unpatch_143 ih]
theorem fr_M_unpatch_135 {μ ρ : Mem}  {l1 : Int}  {n : Nat} {l2 : Int} : M_unpatch_135 l1 n (mg μ ρ) l2 = (M_unpatch_135 l1 n ρ l2).map (mg μ) := fr_M_unpatch_135_x  _ _ _
theorem fr_M_unpatch_69_x {μ : Mem}  {l1 : Int}  : ∀ (n : Nat) (ρ : Mem) (l2 : Int), M_unpatch_69 l1 n (mg μ ρ) l2 = (M_unpatch_69 l1 n ρ l2).map (mg μ) := by
  intro n
  induction n with
  | zero => intro ρ l2; rfl
  | succ n ih =>
    intro ρ l2
    rw [M_unpatch_69, M_unpatch_69]
    simp only [mg_259, mg_260, mg_261, mg_262, mg_263, mg_264, mg_265, mg_266, mg_267, mg_268, mg_269, mg_270, mg_271, mg_272, mg_273, mg_274, mg_275, mg_276, mg_277, mg_278, mg_279, mg_280, fa_260, fa_261, fa_262, fa_263, fa_264, fa_265, fa_266, fa_267, fa_268, fa_269, fa_270, fa_271, fa_272, fa_273, fa_274, fa_275, fa_276, fa_277, fa_278, fa_279, fa_280, fs_260, fs_261, fs_262, fs_263, fs_264, fs_265, fs_266, fs_267, fs_268, fs_269, fs_270, fs_271, fs_272, fs_273, fs_274, fs_275, fs_276, fs_277, fs_278, fs_279, fs_280, fw_259, fz_259, bmap, mbind, mite, Option.map_some, Option.map_none, Option.bind_some, mgP, ih, fr_M_takeAway, fr_M_unpatch_100 ih, fr_M_unpatch_135]
theorem fr_M_unpatch_69 {μ ρ : Mem}  {l1 : Int}  {n : Nat} {l2 : Int} : M_unpatch_69 l1 n (mg μ ρ) l2 = (M_unpatch_69 l1 n ρ l2).map (mg μ) := fr_M_unpatch_69_x  _ _ _
theorem fr_M_unpatch_39_x {μ : Mem}  {l1 : Int}  : ∀ (n : Nat) (ρ : Mem) (l2 : Int), M_unpatch_39 l1 n (mg μ ρ) l2 = (M_unpatch_39 l1 n ρ l2).map (mg μ) := by
  intro n
  induction n with
  | zero => intro ρ l2; rfl
  | succ n ih =>
    intro ρ l2
    rw [M_unpatch_39, M_unpatch_39]
    simp only [mg_259, mg_260, mg_261, mg_262, mg_263, mg_264, mg_265, mg_266, mg_267, mg_268, mg_269, mg_270, mg_271, mg_272, mg_273, mg_274, mg_275, mg_276, mg_277, mg_278, mg_279, mg_280, fa_260, fa_261, fa_262, fa_263, fa_264, fa_265, fa_266, fa_267, fa_268, fa_269, fa_270, fa_271, fa_272, fa_273, fa_274, fa_275, fa_276, fa_277, fa_278, fa_279, fa_280, fs_260, fs_261, fs_262, fs_263, fs_264, fs_265, fs_266, fs_267, fs_268, fs_269, fs_270, fs_271, fs_272, fs_273, fs_274, fs_275, fs_276, fs_277, fs_278, fs_279, fs_280, fw_259, fz_259, bmap, mbind, mite, Option.map_some, Option.map_none, Option.bind_some, mgP, ih, fr_M_unpatch_69]
theorem fr_M_unpatch_39 {μ ρ : Mem}  {l1 : Int}  {n : Nat} {l2 : Int} : M_unpatch_39 l1 n (mg μ ρ) l2 = (M_unpatch_39 l1 n ρ l2).map (mg μ) := fr_M_unpatch_39_x  _ _ _
theorem fr_M_unpatch_12_x {μ : Mem}  {l1 : Int}  : ∀ (n : Nat) (ρ : Mem) (l2 : Int), M_unpatch_12 l1 n (mg μ ρ) l2 = (M_unpatch_12 l1 n ρ l2).map (mg μ) := by
  intro n
  induction n with
  | zero => intro ρ l2; rfl
  | succ n ih =>
    intro ρ l2
    rw [M_unpatch_12, M_unpatch_12]
    simp only [mg_259, mg_260, mg_261, mg_262, mg_263, mg_264, mg_265, mg_266, mg_267, mg_268, mg_269, mg_270, mg_271, mg_272, mg_273, mg_274, mg_275, mg_276, mg_277, mg_278, mg_279, mg_280, fa_260, fa_261, fa_262, fa_263, fa_264, fa_265, fa_266, fa_267, fa_268, fa_269, fa_270, fa_271, fa_272, fa_273, fa_274, fa_275, fa_276, fa_277, fa_278, fa_279, fa_280, fs_260, fs_261, fs_262, fs_263, fs_264, fs_265, fs_266, fs_267, fs_268, fs_269, fs_270, fs_271, fs_272, fs_273, fs_274, fs_275, fs_276, fs_277, fs_278, fs_279, fs_280, fw_259, fz_259, bmap, mbind, mite, Option.map_some, Option.map_none, Option.bind_some, mgP, ih, fr_M_takeAway, fr_M_unpatch_39]
theorem fr_M_unpatch_12 {μ ρ : Mem}  {l1 : Int}  {n : Nat} {l2 : Int} : M_unpatch_12 l1 n (mg μ ρ) l2 = (M_unpatch_12 l1 n ρ l2).map (mg μ) := fr_M_unpatch_12_x  _ _ _
theorem fr_M_unpatch {μ ρ : Mem}  {a1 : Int}  : M_unpatch (mg μ ρ) a1 = (M_unpatch ρ a1).map (mg μ) := by
  unfold M_unpatch
  simp only [mg_259, mg_260, mg_261, mg_262, mg_263, mg_264, mg_265, mg_266, mg_267, mg_268, mg_269, mg_270, mg_271, mg_272, mg_273, mg_274, mg_275, mg_276, mg_277, mg_278, mg_279, mg_280, fa_260, fa_261, fa_262, fa_263, fa_264, fa_265, fa_266, fa_267, fa_268, fa_269, fa_270, fa_271, fa_272, fa_273, fa_274, fa_275, fa_276, fa_277, fa_278, fa_279, fa_280, fs_260, fs_261, fs_262, fs_263, fs_264, fs_265, fs_266, fs_267, fs_268, fs_269, fs_270, fs_271, fs_272, fs_273, fs_274, fs_275, fs_276, fs_277, fs_278, fs_279, fs_280, fw_259, fz_259, bmap, mbind, mite, Option.map_some, Option.map_none, Option.bind_some, mgP, fr_M_unpatch_12]
theorem fr_M_makeGroup_12_x {μ : Mem}  {l1 : Int}  : ∀ (n : Nat) (ρ : Mem) (l2 : Int), M_makeGroup_12 l1 n (mg μ ρ) l2 = (M_makeGroup_12 l1 n ρ l2).map (mg μ) := by
  intro n
  induction n with
  | zero => intro ρ l2; rfl
  | succ n ih =>
    intro ρ l2
    rw [M_makeGroup_12, M_makeGroup_12]
    simp only [mg_259, mg_260, mg_261, mg_262, mg_263, mg_264, mg_265, mg_266, mg_267, mg_268, mg_269, mg_270, mg_271, mg_272, mg_273, mg_274, mg_275, mg_276, mg_277, mg_278, mg_279, mg_280, fa_260, fa_261, fa_262, fa_263, fa_264, fa_265, fa_266, fa_267, fa_268, fa_269, fa_270, fa_271, fa_272, fa_273, fa_274, fa_275, fa_276, fa_277, fa_278, fa_279, fa_280, fs_260, fs_261, fs_262, fs_263, fs_264, fs_265, fs_266, fs_267, fs_268, fs_269, fs_270, fs_271, fs_272, fs_273, fs_274, fs_275, fs_276, fs_277, fs_278, fs_279, fs_280, fw_259, fz_259, bmap, mbind, mite, Option.map_some, Option.map_none, Option.bind_some, mgP, ih]
theorem fr_M_makeGroup_12 {μ ρ : Mem}  {l1 : Int}  {n : Nat} {l2 : Int} : M_makeGroup_12 l1 n (mg μ ρ) l2 = (M_makeGroup_12 l1 n ρ l2).map (mg μ) := fr_M_makeGroup_12_x  _ _ _
theorem fr_M_makeGroup {μ ρ : Mem}  {a1 : Int}  : M_makeGroup (mg μ ρ) a1 = (M_makeGroup ρ a1).map (mg μ) := by
  unfold M_makeGroup
  simp only [mg_259, mg_260, mg_261, mg_262, mg_263, mg_264, mg_265, mg_266, mg_267, mg_268, mg_269, mg_270, mg_271, mg_272, mg_273, mg_274, mg_275, mg_276, mg_277, mg_278, mg_279, mg_280, fa_260, fa_261, fa_262, fa_263, fa_264, fa_265, fa_266, fa_267, fa_268, fa_269, fa_270, fa_271, fa_272, fa_273, fa_274, fa_275, fa_276, fa_277, fa_278, fa_279, fa_280, fs_260, fs_261, fs_262, fs_263, fs_264, fs_265, fs_266, fs_267, fs_268, fs_269, fs_270, fs_271, fs_272, fs_273, fs_274, fs_275, fs_276, fs_277, fs_278, fs_279, fs_280, fw_259, fz_259, bmap, mbind, mite, Option.map_some, Option.map_none, Option.bind_some, mgP, fr_M_makeGroup_12]
theorem fr_M_parameterAt {μ ρ : Mem}  {a1 : Int}  : M_parameterAt (mg μ ρ) a1 = M_parameterAt ρ a1 := by
  unfold M_parameterAt
  simp only [mg_259, mg_260, mg_261, mg_262, mg_263, mg_264, mg_265, mg_266, mg_267, mg_268, mg_269, mg_270, mg_271, mg_272, mg_273, mg_274, mg_275, mg_276, mg_277, mg_278, mg_279, mg_280, fa_260, fa_261, fa_262, fa_263, fa_264, fa_265, fa_266, fa_267, fa_268, fa_269, fa_270, fa_271, fa_272, fa_273, fa_274, fa_275, fa_276, fa_277, fa_278, fa_279, fa_280, fs_260, fs_261, fs_262, fs_263, fs_264, fs_265, fs_266, fs_267, fs_268, fs_269, fs_270, fs_271, fs_272, fs_273, fs_274, fs_275, fs_276, fs_277, fs_278, fs_279, fs_280, fw_259, fz_259, bmap, mbind, mite, Option.map_some, Option.map_none, Option.bind_some, mgP]
theorem fr_M_mix {μ ρ : Mem}  {a0 : Int} {a1 : Int} {a2 : Int} {a3 : Int}  : M_mix (mg μ ρ) a0 a1 a2 a3 = M_mix ρ a0 a1 a2 a3 := by
  unfold M_mix
  simp only [mg_259, mg_260, mg_261, mg_262, mg_263, mg_264, mg_265, mg_266, mg_267, mg_268, mg_269, mg_270, mg_271, mg_272, mg_273, mg_274, mg_275, mg_276, mg_277, mg_278, mg_279, mg_280, fa_260, fa_261, fa_262, fa_263, fa_264, fa_265, fa_266, fa_267, fa_268, fa_269, fa_270, fa_271, fa_272, fa_273, fa_274, fa_275, fa_276, fa_277, fa_278, fa_279, fa_280, fs_260, fs_261, fs_262, fs_263, fs_264, fs_265, fs_266, fs_267, fs_268, fs_269, fs_270, fs_271, fs_272, fs_273, fs_274, fs_275, fs_276, fs_277, fs_278, fs_279, fs_280, fw_259, fz_259, bmap, mbind, mite, Option.map_some, Option.map_none, Option.bind_some, mgP]
theorem fr_M_originOf_5_x {μ ρ : Mem}  {l1 : Int} {l2 : Int}  : ∀ (n : Nat) (l3 : Int) (l4 : Int), M_originOf_5 (mg μ ρ) l1 l2 n l3 l4 = M_originOf_5 ρ l1 l2 n l3 l4 := by
  intro n
  induction n with
  | zero => intro l3 l4; rfl
  | succ n ih =>
    intro l3 l4
    rw [M_originOf_5, M_originOf_5]
    simp only [mg_259, mg_260, mg_261, mg_262, mg_263, mg_264, mg_265, mg_266, mg_267, mg_268, mg_269, mg_270, mg_271, mg_272, mg_273, mg_274, mg_275, mg_276, mg_277, mg_278, mg_279, mg_280, fa_260, fa_261, fa_262, fa_263, fa_264, fa_265, fa_266, fa_267, fa_268, fa_269, fa_270, fa_271, fa_272, fa_273, fa_274, fa_275, fa_276, fa_277, fa_278, fa_279, fa_280, fs_260, fs_261, fs_262, fs_263, fs_264, fs_265, fs_266, fs_267, fs_268, fs_269, fs_270, fs_271, fs_272, fs_273, fs_274, fs_275, fs_276, fs_277, fs_278, fs_279, fs_280, fw_259, fz_259, bmap, mbind, mite, Option.map_some, Option.map_none, Option.bind_some, mgP, ih, fr_M_cueNumber]
theorem fr_M_originOf_5 {μ ρ : Mem}  {l1 : Int} {l2 : Int}  {n : Nat} {l3 : Int} {l4 : Int} : M_originOf_5 (mg μ ρ) l1 l2 n l3 l4 = M_originOf_5 ρ l1 l2 n l3 l4 := fr_M_originOf_5_x  _ _ _
theorem fr_M_originOf {μ ρ : Mem}  {a1 : Int} {a2 : Int}  : M_originOf (mg μ ρ) a1 a2 = M_originOf ρ a1 a2 := by
  unfold M_originOf
  simp only [mg_259, mg_260, mg_261, mg_262, mg_263, mg_264, mg_265, mg_266, mg_267, mg_268, mg_269, mg_270, mg_271, mg_272, mg_273, mg_274, mg_275, mg_276, mg_277, mg_278, mg_279, mg_280, fa_260, fa_261, fa_262, fa_263, fa_264, fa_265, fa_266, fa_267, fa_268, fa_269, fa_270, fa_271, fa_272, fa_273, fa_274, fa_275, fa_276, fa_277, fa_278, fa_279, fa_280, fs_260, fs_261, fs_262, fs_263, fs_264, fs_265, fs_266, fs_267, fs_268, fs_269, fs_270, fs_271, fs_272, fs_273, fs_274, fs_275, fs_276, fs_277, fs_278, fs_279, fs_280, fw_259, fz_259, bmap, mbind, mite, Option.map_some, Option.map_none, Option.bind_some, mgP, fr_M_originOf_5]
theorem fr_M_trackedValue {μ ρ : Mem}  {a1 : Int} {a2 : Int}  : M_trackedValue (mg μ ρ) a1 a2 = M_trackedValue ρ a1 a2 := by
  unfold M_trackedValue
  simp only [mg_259, mg_260, mg_261, mg_262, mg_263, mg_264, mg_265, mg_266, mg_267, mg_268, mg_269, mg_270, mg_271, mg_272, mg_273, mg_274, mg_275, mg_276, mg_277, mg_278, mg_279, mg_280, fa_260, fa_261, fa_262, fa_263, fa_264, fa_265, fa_266, fa_267, fa_268, fa_269, fa_270, fa_271, fa_272, fa_273, fa_274, fa_275, fa_276, fa_277, fa_278, fa_279, fa_280, fs_260, fs_261, fs_262, fs_263, fs_264, fs_265, fs_266, fs_267, fs_268, fs_269, fs_270, fs_271, fs_272, fs_273, fs_274, fs_275, fs_276, fs_277, fs_278, fs_279, fs_280, fw_259, fz_259, bmap, mbind, mite, Option.map_some, Option.map_none, Option.bind_some, mgP, fr_M_cueRow, fr_M_originOf]
theorem fr_M_levelOf {μ ρ : Mem}  {a1 : Int} {a2 : Int}  : M_levelOf (mg μ ρ) a1 a2 = M_levelOf ρ a1 a2 := by
  unfold M_levelOf
  simp only [mg_259, mg_260, mg_261, mg_262, mg_263, mg_264, mg_265, mg_266, mg_267, mg_268, mg_269, mg_270, mg_271, mg_272, mg_273, mg_274, mg_275, mg_276, mg_277, mg_278, mg_279, mg_280, fa_260, fa_261, fa_262, fa_263, fa_264, fa_265, fa_266, fa_267, fa_268, fa_269, fa_270, fa_271, fa_272, fa_273, fa_274, fa_275, fa_276, fa_277, fa_278, fa_279, fa_280, fs_260, fs_261, fs_262, fs_263, fs_264, fs_265, fs_266, fs_267, fs_268, fs_269, fs_270, fs_271, fs_272, fs_273, fs_274, fs_275, fs_276, fs_277, fs_278, fs_279, fs_280, fw_259, fz_259, bmap, mbind, mite, Option.map_some, Option.map_none, Option.bind_some, mgP]
theorem fr_M_trackedLevel {μ ρ : Mem}  {a1 : Int} {a2 : Int}  : M_trackedLevel (mg μ ρ) a1 a2 = M_trackedLevel ρ a1 a2 := by
  unfold M_trackedLevel
  simp only [mg_259, mg_260, mg_261, mg_262, mg_263, mg_264, mg_265, mg_266, mg_267, mg_268, mg_269, mg_270, mg_271, mg_272, mg_273, mg_274, mg_275, mg_276, mg_277, mg_278, mg_279, mg_280, fa_260, fa_261, fa_262, fa_263, fa_264, fa_265, fa_266, fa_267, fa_268, fa_269, fa_270, fa_271, fa_272, fa_273, fa_274, fa_275, fa_276, fa_277, fa_278, fa_279, fa_280, fs_260, fs_261, fs_262, fs_263, fs_264, fs_265, fs_266, fs_267, fs_268, fs_269, fs_270, fs_271, fs_272, fs_273, fs_274, fs_275, fs_276, fs_277, fs_278, fs_279, fs_280, fw_259, fz_259, bmap, mbind, mite, Option.map_some, Option.map_none, Option.bind_some, mgP, fr_M_levelOf, fr_M_trackedValue]
theorem fr_M_cueLevel {μ ρ : Mem}  {a1 : Int}  : M_cueLevel (mg μ ρ) a1 = M_cueLevel ρ a1 := by
  unfold M_cueLevel
  simp only [mg_259, mg_260, mg_261, mg_262, mg_263, mg_264, mg_265, mg_266, mg_267, mg_268, mg_269, mg_270, mg_271, mg_272, mg_273, mg_274, mg_275, mg_276, mg_277, mg_278, mg_279, mg_280, fa_260, fa_261, fa_262, fa_263, fa_264, fa_265, fa_266, fa_267, fa_268, fa_269, fa_270, fa_271, fa_272, fa_273, fa_274, fa_275, fa_276, fa_277, fa_278, fa_279, fa_280, fs_260, fs_261, fs_262, fs_263, fs_264, fs_265, fs_266, fs_267, fs_268, fs_269, fs_270, fs_271, fs_272, fs_273, fs_274, fs_275, fs_276, fs_277, fs_278, fs_279, fs_280, fw_259, fz_259, bmap, mbind, mite, Option.map_some, Option.map_none, Option.bind_some, mgP, fr_M_mix]
theorem fr_M_present {μ ρ : Mem}  {a1 : Int} {a2 : Int}  : M_present (mg μ ρ) a1 a2 = M_present ρ a1 a2 := by
  unfold M_present
  simp only [mg_259, mg_260, mg_261, mg_262, mg_263, mg_264, mg_265, mg_266, mg_267, mg_268, mg_269, mg_270, mg_271, mg_272, mg_273, mg_274, mg_275, mg_276, mg_277, mg_278, mg_279, mg_280, fa_260, fa_261, fa_262, fa_263, fa_264, fa_265, fa_266, fa_267, fa_268, fa_269, fa_270, fa_271, fa_272, fa_273, fa_274, fa_275, fa_276, fa_277, fa_278, fa_279, fa_280, fs_260, fs_261, fs_262, fs_263, fs_264, fs_265, fs_266, fs_267, fs_268, fs_269, fs_270, fs_271, fs_272, fs_273, fs_274, fs_275, fs_276, fs_277, fs_278, fs_279, fs_280, fw_259, fz_259, bmap, mbind, mite, Option.map_some, Option.map_none, Option.bind_some, mgP, fr_M_cueLevel, fr_M_levelOf, fr_M_trackedLevel]
theorem fr_M_has_41_x {μ ρ : Mem}  {l2 : Int} {l3 : Int}  : ∀ (n : Nat) (l4 : Int) (l5 : Int), M_has_41 (mg μ ρ) l2 l3 n l4 l5 = M_has_41 ρ l2 l3 n l4 l5 := by
  intro n
  induction n with
  | zero => intro l4 l5; rfl
  | succ n ih =>
    intro l4 l5
    rw [M_has_41, M_has_41]
    simp only [mg_259, mg_260, mg_261, mg_262, mg_263, mg_264, mg_265, mg_266, mg_267, mg_268, mg_269, mg_270, mg_271, mg_272, mg_273, mg_274, mg_275, mg_276, mg_277, mg_278, mg_279, mg_280, fa_260, fa_261, fa_262, fa_263, fa_264, fa_265, fa_266, fa_267, fa_268, fa_269, fa_270, fa_271, fa_272, fa_273, fa_274, fa_275, fa_276, fa_277, fa_278, fa_279, fa_280, fs_260, fs_261, fs_262, fs_263, fs_264, fs_265, fs_266, fs_267, fs_268, fs_269, fs_270, fs_271, fs_272, fs_273, fs_274, fs_275, fs_276, fs_277, fs_278, fs_279, fs_280, fw_259, fz_259, bmap, mbind, mite, Option.map_some, Option.map_none, Option.bind_some, mgP, ih]
theorem fr_M_has_41 {μ ρ : Mem}  {l2 : Int} {l3 : Int}  {n : Nat} {l4 : Int} {l5 : Int} : M_has_41 (mg μ ρ) l2 l3 n l4 l5 = M_has_41 ρ l2 l3 n l4 l5 := fr_M_has_41_x  _ _ _
theorem fr_M_has_23 {μ ρ : Mem}  {l2 : Int} {l3 : Int} {s0 : Int}  : M_has_23 (mg μ ρ) l2 l3 s0 = M_has_23 ρ l2 l3 s0 := by
  unfold M_has_23
  simp only [mg_259, mg_260, mg_261, mg_262, mg_263, mg_264, mg_265, mg_266, mg_267, mg_268, mg_269, mg_270, mg_271, mg_272, mg_273, mg_274, mg_275, mg_276, mg_277, mg_278, mg_279, mg_280, fa_260, fa_261, fa_262, fa_263, fa_264, fa_265, fa_266, fa_267, fa_268, fa_269, fa_270, fa_271, fa_272, fa_273, fa_274, fa_275, fa_276, fa_277, fa_278, fa_279, fa_280, fs_260, fs_261, fs_262, fs_263, fs_264, fs_265, fs_266, fs_267, fs_268, fs_269, fs_270, fs_271, fs_272, fs_273, fs_274, fs_275, fs_276, fs_277, fs_278, fs_279, fs_280, fw_259, fz_259, bmap, mbind, mite, Option.map_some, Option.map_none, Option.bind_some, mgP, fr_M_has_41]
theorem fr_M_has {μ ρ : Mem}  {a1 : Int} {a2 : Int}  : M_has (mg μ ρ) a1 a2 = M_has ρ a1 a2 := by
  unfold M_has
  simp only [mg_259, mg_260, mg_261, mg_262, mg_263, mg_264, mg_265, mg_266, mg_267, mg_268, mg_269, mg_270, mg_271, mg_272, mg_273, mg_274, mg_275, mg_276, mg_277, mg_278, mg_279, mg_280, fa_260, fa_261, fa_262, fa_263, fa_264, fa_265, fa_266, fa_267, fa_268, fa_269, fa_270, fa_271, fa_272, fa_273, fa_274, fa_275, fa_276, fa_277, fa_278, fa_279, fa_280, fs_260, fs_261, fs_262, fs_263, fs_264, fs_265, fs_266, fs_267, fs_268, fs_269, fs_270, fs_271, fs_272, fs_273, fs_274, fs_275, fs_276, fs_277, fs_278, fs_279, fs_280, fw_259, fz_259, bmap, mbind, mite, Option.map_some, Option.map_none, Option.bind_some, mgP, fr_M_has_23]
theorem fr_M_give_45 {μ ρ : Mem}  {l3 : Int} {l4 : Int} {s0 : Int}  : M_give_45 (mg μ ρ) l3 l4 s0 = (M_give_45 ρ l3 l4 s0).map (mg μ) := by
  unfold M_give_45
  simp only [mg_259, mg_260, mg_261, mg_262, mg_263, mg_264, mg_265, mg_266, mg_267, mg_268, mg_269, mg_270, mg_271, mg_272, mg_273, mg_274, mg_275, mg_276, mg_277, mg_278, mg_279, mg_280, fa_260, fa_261, fa_262, fa_263, fa_264, fa_265, fa_266, fa_267, fa_268, fa_269, fa_270, fa_271, fa_272, fa_273, fa_274, fa_275, fa_276, fa_277, fa_278, fa_279, fa_280, fs_260, fs_261, fs_262, fs_263, fs_264, fs_265, fs_266, fs_267, fs_268, fs_269, fs_270, fs_271, fs_272, fs_273, fs_274, fs_275, fs_276, fs_277, fs_278, fs_279, fs_280, fw_259, fz_259, bmap, mbind, mite, Option.map_some, Option.map_none, Option.bind_some, mgP]
theorem fr_M_give {μ ρ : Mem}  {a1 : Int} {a2 : Int} {a3 : Int}  : M_give (mg μ ρ) a1 a2 a3 = (M_give ρ a1 a2 a3).map (mg μ) := by
  unfold M_give
  simp only [mg_259, mg_260, mg_261, mg_262, mg_263, mg_264, mg_265, mg_266, mg_267, mg_268, mg_269, mg_270, mg_271, mg_272, mg_273, mg_274, mg_275, mg_276, mg_277, mg_278, mg_279, mg_280, fa_260, fa_261, fa_262, fa_263, fa_264, fa_265, fa_266, fa_267, fa_268, fa_269, fa_270, fa_271, fa_272, fa_273, fa_274, fa_275, fa_276, fa_277, fa_278, fa_279, fa_280, fs_260, fs_261, fs_262, fs_263, fs_264, fs_265, fs_266, fs_267, fs_268, fs_269, fs_270, fs_271, fs_272, fs_273, fs_274, fs_275, fs_276, fs_277, fs_278, fs_279, fs_280, fw_259, fz_259, bmap, mbind, mite, Option.map_some, Option.map_none, Option.bind_some, mgP, fr_M_cueRow, fr_M_give_45, fr_M_has]
theorem fr_M_parameterValues_222 {μ ρ : Mem} {K105 J105 : Mem → Int → Option (Int × Mem)} {l1 : Int} {l2 : Int} {l4 : Int} {l5 : Int} {l6 : Int} {l7 : Int} {l8 : Int} {l9 : Int} {l10 : Int} (hK105 : ∀ (ρ : Mem) (l9 : Int), K105 (mg μ ρ) l9 = (J105 ρ l9).map (mgP μ)) : M_parameterValues_222 K105 (mg μ ρ) l1 l2 l4 l5 l6 l7 l8 l9 l10 = (M_parameterValues_222 J105 ρ l1 l2 l4 l5 l6 l7 l8 l9 l10).map (mgP μ) := by
  unfold M_parameterValues_222
  simp only [mg_259, mg_260, mg_261, mg_262, mg_263, mg_264, mg_265, mg_266, mg_267, mg_268, mg_269, mg_270, mg_271, mg_272, mg_273, mg_274, mg_275, mg_276, mg_277, mg_278, mg_279, mg_280, fa_260, fa_261, fa_262, fa_263, fa_264, fa_265, fa_266, fa_267, fa_268, fa_269, fa_270, fa_271, fa_272, fa_273, fa_274, fa_275, fa_276, fa_277, fa_278, fa_279, fa_280, fs_260, fs_261, fs_262, fs_263, fs_264, fs_265, fs_266, fs_267, fs_268, fs_269, fs_270, fs_271, fs_272, fs_273, fs_274, fs_275, fs_276, fs_277, fs_278, fs_279, fs_280, fw_259, fz_259, bmap, mbind, mite, Option.map_some, Option.map_none, Option.bind_some, mgP, hK105, fr_M_give]
theorem fr_M_parameterValues_196 {μ ρ : Mem} {K105 J105 : Mem → Int → Option (Int × Mem)} {l1 : Int} {l2 : Int} {l4 : Int} {l5 : Int} {l6 : Int} {l7 : Int} {l8 : Int} {l9 : Int} {l10 : Int} (hK105 : ∀ (ρ : Mem) (l9 : Int), K105 (mg μ ρ) l9 = (J105 ρ l9).map (mgP μ)) : M_parameterValues_196 K105 (mg μ ρ) l1 l2 l4 l5 l6 l7 l8 l9 l10 = (M_parameterValues_196 J105 ρ l1 l2 l4 l5 l6 l7 l8 l9 l10).map (mgP μ) := by
  unfold M_parameterValues_196
  simp only [mg_259, mg_260, mg_261, mg_262, mg_263, mg_264, mg_265, mg_266, mg_267, mg_268, mg_269, mg_270, mg_271, mg_272, mg_273, mg_274, mg_275, mg_276, mg_277, mg_278, mg_279, mg_280, fa_260, fa_261, fa_262, fa_263, fa_264, fa_265, fa_266, fa_267, fa_268, fa_269, fa_270, fa_271, fa_272, fa_273, fa_274, fa_275, fa_276, fa_277, fa_278, fa_279, fa_280, fs_260, fs_261, fs_262, fs_263, fs_264, fs_265, fs_266, fs_267, fs_268, fs_269, fs_270, fs_271, fs_272, fs_273, fs_274, fs_275, fs_276, fs_277, fs_278, fs_279, fs_280, fw_259, fz_259, bmap, mbind, mite, Option.map_some, Option.map_none, Option.bind_some, mgP, hK105, fr_M_parameterValues_222 hK105, fr_M_present]
theorem fr_M_parameterValues_168 {μ ρ : Mem} {K105 J105 : Mem → Int → Option (Int × Mem)} {l1 : Int} {l2 : Int} {l4 : Int} {l5 : Int} {l6 : Int} {l7 : Int} {l8 : Int} {l9 : Int} {l10 : Int} (hK105 : ∀ (ρ : Mem) (l9 : Int), K105 (mg μ ρ) l9 = (J105 ρ l9).map (mgP μ)) : M_parameterValues_168 K105 (mg μ ρ) l1 l2 l4 l5 l6 l7 l8 l9 l10 = (M_parameterValues_168 J105 ρ l1 l2 l4 l5 l6 l7 l8 l9 l10).map (mgP μ) := by
  unfold M_parameterValues_168
  simp only [mg_259, mg_260, mg_261, mg_262, mg_263, mg_264, mg_265, mg_266, mg_267, mg_268, mg_269, mg_270, mg_271, mg_272, mg_273, mg_274, mg_275, mg_276, mg_277, mg_278, mg_279, mg_280, fa_260, fa_261, fa_262, fa_263, fa_264, fa_265, fa_266, fa_267, fa_268, fa_269, fa_270, fa_271, fa_272, fa_273, fa_274, fa_275, fa_276, fa_277, fa_278, fa_279, fa_280, fs_260, fs_261, fs_262, fs_263, fs_264, fs_265, fs_266, fs_267, fs_268, fs_269, fs_270, fs_271, fs_272, fs_273, fs_274, fs_275, fs_276, fs_277, fs_278, fs_279, fs_280, fw_259, fz_259, bmap, mbind, mite, Option.map_some, Option.map_none, Option.bind_some, mgP, hK105, fr_M_parameterValues_196 hK105, fr_M_present]
theorem fr_M_parameterValues_130 {μ ρ : Mem} {K105 J105 : Mem → Int → Option (Int × Mem)} {l1 : Int} {l2 : Int} {l4 : Int} {l5 : Int} {l6 : Int} {l7 : Int} {l8 : Int} {l9 : Int} {s0 : Int} (hK105 : ∀ (ρ : Mem) (l9 : Int), K105 (mg μ ρ) l9 = (J105 ρ l9).map (mgP μ)) : M_parameterValues_130 K105 (mg μ ρ) l1 l2 l4 l5 l6 l7 l8 l9 s0 = (M_parameterValues_130 J105 ρ l1 l2 l4 l5 l6 l7 l8 l9 s0).map (mgP μ) := by
  unfold M_parameterValues_130
  simp only [mg_259, mg_260, mg_261, mg_262, mg_263, mg_264, mg_265, mg_266, mg_267, mg_268, mg_269, mg_270, mg_271, mg_272, mg_273, mg_274, mg_275, mg_276, mg_277, mg_278, mg_279, mg_280, fa_260, fa_261, fa_262, fa_263, fa_264, fa_265, fa_266, fa_267, fa_268, fa_269, fa_270, fa_271, fa_272, fa_273, fa_274, fa_275, fa_276, fa_277, fa_278, fa_279, fa_280, fs_260, fs_261, fs_262, fs_263, fs_264, fs_265, fs_266, fs_267, fs_268, fs_269, fs_270, fs_271, fs_272, fs_273, fs_274, fs_275, fs_276, fs_277, fs_278, fs_279, fs_280, fw_259, fz_259, bmap, mbind, mite, Option.map_some, Option.map_none, Option.bind_some, mgP, hK105, fr_M_mix, fr_M_parameterValues_168 hK105]
theorem fr_M_parameterValues_105_x {μ : Mem}  {l1 : Int} {l2 : Int} {l4 : Int} {l5 : Int} {l6 : Int} {l7 : Int} {l8 : Int}  : ∀ (n : Nat) (ρ : Mem) (l9 : Int), M_parameterValues_105 l1 l2 l4 l5 l6 l7 l8 n (mg μ ρ) l9 = (M_parameterValues_105 l1 l2 l4 l5 l6 l7 l8 n ρ l9).map (mgP μ) := by
  intro n
  induction n with
  | zero => intro ρ l9; rfl
  | succ n ih =>
    intro ρ l9
    rw [M_parameterValues_105, M_parameterValues_105]
    simp only [mg_259, mg_260, mg_261, mg_262, mg_263, mg_264, mg_265, mg_266, mg_267, mg_268, mg_269, mg_270, mg_271, mg_272, mg_273, mg_274, mg_275, mg_276, mg_277, mg_278, mg_279, mg_280, fa_260, fa_261, fa_262, fa_263, fa_264, fa_265, fa_266, fa_267, fa_268, fa_269, fa_270, fa_271, fa_272, fa_273, fa_274, fa_275, fa_276, fa_277, fa_278, fa_279, fa_280, fs_260, fs_261, fs_262, fs_263, fs_264, fs_265, fs_266, fs_267, fs_268, fs_269, fs_270, fs_271, fs_272, fs_273, fs_274, fs_275, fs_276, fs_277, fs_278, fs_279, fs_280, fw_259, fz_259, bmap, mbind, mite, Option.map_some, Option.map_none, Option.bind_some, mgP, ih, fr_M_parameterValues_130 ih]
theorem fr_M_parameterValues_105 {μ ρ : Mem}  {l1 : Int} {l2 : Int} {l4 : Int} {l5 : Int} {l6 : Int} {l7 : Int} {l8 : Int}  {n : Nat} {l9 : Int} : M_parameterValues_105 l1 l2 l4 l5 l6 l7 l8 n (mg μ ρ) l9 = (M_parameterValues_105 l1 l2 l4 l5 l6 l7 l8 n ρ l9).map (mgP μ) := fr_M_parameterValues_105_x  _ _ _
theorem fr_M_parameterValues_72 {μ ρ : Mem}  {l1 : Int} {l2 : Int} {l4 : Int} {l5 : Int} {l6 : Int} {s0 : Int}  : M_parameterValues_72 (mg μ ρ) l1 l2 l4 l5 l6 s0 = (M_parameterValues_72 ρ l1 l2 l4 l5 l6 s0).map (mgP μ) := by
  unfold M_parameterValues_72
  simp only [mg_259, mg_260, mg_261, mg_262, mg_263, mg_264, mg_265, mg_266, mg_267, mg_268, mg_269, mg_270, mg_271, mg_272, mg_273, mg_274, mg_275, mg_276, mg_277, mg_278, mg_279, mg_280, fa_260, fa_261, fa_262, fa_263, fa_264, fa_265, fa_266, fa_267, fa_268, fa_269, fa_270, fa_271, fa_272, fa_273, fa_274, fa_275, fa_276, fa_277, fa_278, fa_279, fa_280, fs_260, fs_261, fs_262, fs_263, fs_264, fs_265, fs_266, fs_267, fs_268, fs_269, fs_270, fs_271, fs_272, fs_273, fs_274, fs_275, fs_276, fs_277, fs_278, fs_279, fs_280, fw_259, fz_259, bmap, mbind, mite, Option.map_some, Option.map_none, Option.bind_some, mgP, fr_M_isWordAt, fr_M_parameterValues_105]
theorem fr_M_parameterValues {μ ρ : Mem}  {a1 : Int} {a2 : Int}  : M_parameterValues (mg μ ρ) a1 a2 = (M_parameterValues ρ a1 a2).map (mgP μ) := by
  unfold M_parameterValues
  simp only [mg_259, mg_260, mg_261, mg_262, mg_263, mg_264, mg_265, mg_266, mg_267, mg_268, mg_269, mg_270, mg_271, mg_272, mg_273, mg_274, mg_275, mg_276, mg_277, mg_278, mg_279, mg_280, fa_260, fa_261, fa_262, fa_263, fa_264, fa_265, fa_266, fa_267, fa_268, fa_269, fa_270, fa_271, fa_272, fa_273, fa_274, fa_275, fa_276, fa_277, fa_278, fa_279, fa_280, fs_260, fs_261, fs_262, fs_263, fs_264, fs_265, fs_266, fs_267, fs_268, fs_269, fs_270, fs_271, fs_272, fs_273, fs_274, fs_275, fs_276, fs_277, fs_278, fs_279, fs_280, fw_259, fz_259, bmap, mbind, mite, Option.map_some, Option.map_none, Option.bind_some, mgP, fr_M_isSignAt, fr_M_isWordAt, fr_M_parameterValues_72]
theorem fr_M_paletteValues_2_x {μ : Mem}  {l1 : Int}  : ∀ (n : Nat) (ρ : Mem) (l2 : Int), M_paletteValues_2 l1 n (mg μ ρ) l2 = (M_paletteValues_2 l1 n ρ l2).map (mg μ) := by
  intro n
  induction n with
  | zero => intro ρ l2; rfl
  | succ n ih =>
    intro ρ l2
    rw [M_paletteValues_2, M_paletteValues_2]
    simp only [mg_259, mg_260, mg_261, mg_262, mg_263, mg_264, mg_265, mg_266, mg_267, mg_268, mg_269, mg_270, mg_271, mg_272, mg_273, mg_274, mg_275, mg_276, mg_277, mg_278, mg_279, mg_280, fa_260, fa_261, fa_262, fa_263, fa_264, fa_265, fa_266, fa_267, fa_268, fa_269, fa_270, fa_271, fa_272, fa_273, fa_274, fa_275, fa_276, fa_277, fa_278, fa_279, fa_280, fs_260, fs_261, fs_262, fs_263, fs_264, fs_265, fs_266, fs_267, fs_268, fs_269, fs_270, fs_271, fs_272, fs_273, fs_274, fs_275, fs_276, fs_277, fs_278, fs_279, fs_280, fw_259, fz_259, bmap, mbind, mite, Option.map_some, Option.map_none, Option.bind_some, mgP, ih, fr_M_give]
theorem fr_M_paletteValues_2 {μ ρ : Mem}  {l1 : Int}  {n : Nat} {l2 : Int} : M_paletteValues_2 l1 n (mg μ ρ) l2 = (M_paletteValues_2 l1 n ρ l2).map (mg μ) := fr_M_paletteValues_2_x  _ _ _
theorem fr_M_paletteValues {μ ρ : Mem}  {a1 : Int}  : M_paletteValues (mg μ ρ) a1 = (M_paletteValues ρ a1).map (mg μ) := by
  unfold M_paletteValues
  simp only [mg_259, mg_260, mg_261, mg_262, mg_263, mg_264, mg_265, mg_266, mg_267, mg_268, mg_269, mg_270, mg_271, mg_272, mg_273, mg_274, mg_275, mg_276, mg_277, mg_278, mg_279, mg_280, fa_260, fa_261, fa_262, fa_263, fa_264, fa_265, fa_266, fa_267, fa_268, fa_269, fa_270, fa_271, fa_272, fa_273, fa_274, fa_275, fa_276, fa_277, fa_278, fa_279, fa_280, fs_260, fs_261, fs_262, fs_263, fs_264, fs_265, fs_266, fs_267, fs_268, fs_269, fs_270, fs_271, fs_272, fs_273, fs_274, fs_275, fs_276, fs_277, fs_278, fs_279, fs_280, fw_259, fz_259, bmap, mbind, mite, Option.map_some, Option.map_none, Option.bind_some, mgP, fr_M_paletteValues_2]
theorem fr_M_values_117 {μ ρ : Mem} {K5 J5 : Mem → Int → Option (Mem)} {K69 J69 : Mem → Int → Option (Mem)} {l1 : Int} {l2 : Int} {s1 : Int} {s2 : Int} {s3 : Int} (hK5 : ∀ (ρ : Mem) (l1 : Int), K5 (mg μ ρ) l1 = (J5 ρ l1).map (mg μ)) (hK69 : ∀ (ρ : Mem) (l2 : Int), K69 (mg μ ρ) l2 = (J69 ρ l2).map (mg μ)) : M_values_117 K5 K69 (mg μ ρ) l1 l2 s1 s2 s3 = (M_values_117 J5 J69 ρ l1 l2 s1 s2 s3).map (mg μ) := by
  unfold M_values_117
  simp only [mg_259, mg_260, mg_261, mg_262, mg_263, mg_264, mg_265, mg_266, mg_267, mg_268, mg_269, mg_270, mg_271, mg_272, mg_273, mg_274, mg_275, mg_276, mg_277, mg_278, mg_279, mg_280, fa_260, fa_261, fa_262, fa_263, fa_264, fa_265, fa_266, fa_267, fa_268, fa_269, fa_270, fa_271, fa_272, fa_273, fa_274, fa_275, fa_276, fa_277, fa_278, fa_279, fa_280, fs_260, fs_261, fs_262, fs_263, fs_264, fs_265, fs_266, fs_267, fs_268, fs_269, fs_270, fs_271, fs_272, fs_273, fs_274, fs_275, fs_276, fs_277, fs_278, fs_279, fs_280, fw_259, fz_259, bmap, mbind, mite, Option.map_some, Option.map_none, Option.bind_some, mgP, hK5, hK69, fr_M_give]
theorem fr_M_values_69_x {μ : Mem} {K5 J5 : Mem → Int → Option (Mem)} {l1 : Int} (hK5 : ∀ (ρ : Mem) (l1 : Int), K5 (mg μ ρ) l1 = (J5 ρ l1).map (mg μ)) : ∀ (n : Nat) (ρ : Mem) (l2 : Int), M_values_69 K5 l1 n (mg μ ρ) l2 = (M_values_69 J5 l1 n ρ l2).map (mg μ) := by
  intro n
  induction n with
  | zero => intro ρ l2; rfl
  | succ n ih =>
    intro ρ l2
    rw [M_values_69, M_values_69]
    simp only [mg_259, mg_260, mg_261, mg_262, mg_263, mg_264, mg_265, mg_266, mg_267, mg_268, mg_269, mg_270, mg_271, mg_272, mg_273, mg_274, mg_275, mg_276, mg_277, mg_278, mg_279, mg_280, fa_260, fa_261, fa_262, fa_263, fa_264, fa_265, fa_266, fa_267, fa_268, fa_269, fa_270, fa_271, fa_272, fa_273, fa_274, fa_275, fa_276, fa_277, fa_278, fa_279, fa_280, fs_260, fs_261, fs_262, fs_263, fs_264, fs_265, fs_266, fs_267, fs_268, fs_269, fs_270, fs_271, fs_272, fs_273, fs_274, fs_275, fs_276, fs_277, fs_278, fs_279, fs_280, fw_259, fz_259, bmap, mbind, mite, Option.map_some, Option.map_none, Option.bind_some, mgP, ih, hK5, fr_M_isWordAt, fr_M_values_117 hK5 ih]
theorem fr_M_values_69 {μ ρ : Mem} {K5 J5 : Mem → Int → Option (Mem)} {l1 : Int} (hK5 : ∀ (ρ : Mem) (l1 : Int), K5 (mg μ ρ) l1 = (J5 ρ l1).map (mg μ)) {n : Nat} {l2 : Int} : M_values_69 K5 l1 n (mg μ ρ) l2 = (M_values_69 J5 l1 n ρ l2).map (mg μ) := fr_M_values_69_x hK5 _ _ _
theorem fr_M_values_5_x {μ : Mem}    : ∀ (n : Nat) (ρ : Mem) (l1 : Int), M_values_5 n (mg μ ρ) l1 = (M_values_5 n ρ l1).map (mg μ) := by
  intro n
  induction n with
  | zero => intro ρ l1; rfl
  | succ n ih =>
    intro ρ l1
    rw [M_values_5, M_values_5]
    simp only [mg_259, mg_260, mg_261, mg_262, mg_263, mg_264, mg_265, mg_266, mg_267, mg_268, mg_269, mg_270, mg_271, mg_272, mg_273, mg_274, mg_275, mg_276, mg_277, mg_278, mg_279, mg_280, fa_260, fa_261, fa_262, fa_263, fa_264, fa_265, fa_266, fa_267, fa_268, fa_269, fa_270, fa_271, fa_272, fa_273, fa_274, fa_275, fa_276, fa_277, fa_278, fa_279, fa_280, fs_260, fs_261, fs_262, fs_263, fs_264, fs_265, fs_266, fs_267, fs_268, fs_269, fs_270, fs_271, fs_272, fs_273, fs_274, fs_275, fs_276, fs_277, fs_278, fs_279, fs_280, fw_259, fz_259, bmap, mbind, mite, Option.map_some, Option.map_none, Option.bind_some, mgP, ih, fr_M_isParameterAt, fr_M_isSignAt, fr_M_isWordAt, fr_M_paletteValues, fr_M_parameterAt, fr_M_parameterValues, fr_M_values_69 ih]
theorem fr_M_values_5 {μ ρ : Mem}    {n : Nat} {l1 : Int} : M_values_5 n (mg μ ρ) l1 = (M_values_5 n ρ l1).map (mg μ) := fr_M_values_5_x  _ _ _
theorem fr_M_values {μ ρ : Mem}    : M_values (mg μ ρ) = (M_values ρ).map (mg μ) := by
  unfold M_values
  simp only [mg_259, mg_260, mg_261, mg_262, mg_263, mg_264, mg_265, mg_266, mg_267, mg_268, mg_269, mg_270, mg_271, mg_272, mg_273, mg_274, mg_275, mg_276, mg_277, mg_278, mg_279, mg_280, fa_260, fa_261, fa_262, fa_263, fa_264, fa_265, fa_266, fa_267, fa_268, fa_269, fa_270, fa_271, fa_272, fa_273, fa_274, fa_275, fa_276, fa_277, fa_278, fa_279, fa_280, fs_260, fs_261, fs_262, fs_263, fs_264, fs_265, fs_266, fs_267, fs_268, fs_269, fs_270, fs_271, fs_272, fs_273, fs_274, fs_275, fs_276, fs_277, fs_278, fs_279, fs_280, fw_259, fz_259, bmap, mbind, mite, Option.map_some, Option.map_none, Option.bind_some, mgP, fr_M_values_5]
theorem fr_M_makePalette_25_x {μ : Mem}  {l1 : Int}  : ∀ (n : Nat) (ρ : Mem) (l2 : Int), M_makePalette_25 l1 n (mg μ ρ) l2 = (M_makePalette_25 l1 n ρ l2).map (mg μ) := by
  intro n
  induction n with
  | zero => intro ρ l2; rfl
  | succ n ih =>
    intro ρ l2
    rw [M_makePalette_25, M_makePalette_25]
    simp only [mg_259, mg_260, mg_261, mg_262, mg_263, mg_264, mg_265, mg_266, mg_267, mg_268, mg_269, mg_270, mg_271, mg_272, mg_273, mg_274, mg_275, mg_276, mg_277, mg_278, mg_279, mg_280, fa_260, fa_261, fa_262, fa_263, fa_264, fa_265, fa_266, fa_267, fa_268, fa_269, fa_270, fa_271, fa_272, fa_273, fa_274, fa_275, fa_276, fa_277, fa_278, fa_279, fa_280, fs_260, fs_261, fs_262, fs_263, fs_264, fs_265, fs_266, fs_267, fs_268, fs_269, fs_270, fs_271, fs_272, fs_273, fs_274, fs_275, fs_276, fs_277, fs_278, fs_279, fs_280, fw_259, fz_259, bmap, mbind, mite, Option.map_some, Option.map_none, Option.bind_some, mgP, ih, fr_M_isParameterAt, fr_M_parameterAt]
theorem fr_M_makePalette_25 {μ ρ : Mem}  {l1 : Int}  {n : Nat} {l2 : Int} : M_makePalette_25 l1 n (mg μ ρ) l2 = (M_makePalette_25 l1 n ρ l2).map (mg μ) := fr_M_makePalette_25_x  _ _ _
theorem fr_M_makePalette_2_x {μ : Mem}  {l1 : Int}  : ∀ (n : Nat) (ρ : Mem) (l2 : Int), M_makePalette_2 l1 n (mg μ ρ) l2 = (M_makePalette_2 l1 n ρ l2).map (mg μ) := by
  intro n
  induction n with
  | zero => intro ρ l2; rfl
  | succ n ih =>
    intro ρ l2
    rw [M_makePalette_2, M_makePalette_2]
    simp only [mg_259, mg_260, mg_261, mg_262, mg_263, mg_264, mg_265, mg_266, mg_267, mg_268, mg_269, mg_270, mg_271, mg_272, mg_273, mg_274, mg_275, mg_276, mg_277, mg_278, mg_279, mg_280, fa_260, fa_261, fa_262, fa_263, fa_264, fa_265, fa_266, fa_267, fa_268, fa_269, fa_270, fa_271, fa_272, fa_273, fa_274, fa_275, fa_276, fa_277, fa_278, fa_279, fa_280, fs_260, fs_261, fs_262, fs_263, fs_264, fs_265, fs_266, fs_267, fs_268, fs_269, fs_270, fs_271, fs_272, fs_273, fs_274, fs_275, fs_276, fs_277, fs_278, fs_279, fs_280, fw_259, fz_259, bmap, mbind, mite, Option.map_some, Option.map_none, Option.bind_some, mgP, ih, fr_M_makePalette_25]
theorem fr_M_makePalette_2 {μ ρ : Mem}  {l1 : Int}  {n : Nat} {l2 : Int} : M_makePalette_2 l1 n (mg μ ρ) l2 = (M_makePalette_2 l1 n ρ l2).map (mg μ) := fr_M_makePalette_2_x  _ _ _
theorem fr_M_makePalette {μ ρ : Mem}  {a1 : Int}  : M_makePalette (mg μ ρ) a1 = (M_makePalette ρ a1).map (mg μ) := by
  unfold M_makePalette
  simp only [mg_259, mg_260, mg_261, mg_262, mg_263, mg_264, mg_265, mg_266, mg_267, mg_268, mg_269, mg_270, mg_271, mg_272, mg_273, mg_274, mg_275, mg_276, mg_277, mg_278, mg_279, mg_280, fa_260, fa_261, fa_262, fa_263, fa_264, fa_265, fa_266, fa_267, fa_268, fa_269, fa_270, fa_271, fa_272, fa_273, fa_274, fa_275, fa_276, fa_277, fa_278, fa_279, fa_280, fs_260, fs_261, fs_262, fs_263, fs_264, fs_265, fs_266, fs_267, fs_268, fs_269, fs_270, fs_271, fs_272, fs_273, fs_274, fs_275, fs_276, fs_277, fs_278, fs_279, fs_280, fw_259, fz_259, bmap, mbind, mite, Option.map_some, Option.map_none, Option.bind_some, mgP, fr_M_makePalette_2]
theorem fr_M_makeSub_86_x {μ : Mem}  {l2 : Int}  : ∀ (n : Nat) (ρ : Mem) (l3 : Int), M_makeSub_86 l2 n (mg μ ρ) l3 = (M_makeSub_86 l2 n ρ l3).map (mg μ) := by
  intro n
  induction n with
  | zero => intro ρ l3; rfl
  | succ n ih =>
    intro ρ l3
    rw [M_makeSub_86, M_makeSub_86]
    simp only [mg_259, mg_260, mg_261, mg_262, mg_263, mg_264, mg_265, mg_266, mg_267, mg_268, mg_269, mg_270, mg_271, mg_272, mg_273, mg_274, mg_275, mg_276, mg_277, mg_278, mg_279, mg_280, fa_260, fa_261, fa_262, fa_263, fa_264, fa_265, fa_266, fa_267, fa_268, fa_269, fa_270, fa_271, fa_272, fa_273, fa_274, fa_275, fa_276, fa_277, fa_278, fa_279, fa_280, fs_260, fs_261, fs_262, fs_263, fs_264, fs_265, fs_266, fs_267, fs_268, fs_269, fs_270, fs_271, fs_272, fs_273, fs_274, fs_275, fs_276, fs_277, fs_278, fs_279, fs_280, fw_259, fz_259, bmap, mbind, mite, Option.map_some, Option.map_none, Option.bind_some, mgP, ih, fr_M_isWordAt]
theorem fr_M_makeSub_86 {μ ρ : Mem}  {l2 : Int}  {n : Nat} {l3 : Int} : M_makeSub_86 l2 n (mg μ ρ) l3 = (M_makeSub_86 l2 n ρ l3).map (mg μ) := fr_M_makeSub_86_x  _ _ _
theorem fr_M_makeSub_53_x {μ : Mem}  {l2 : Int}  : ∀ (n : Nat) (ρ : Mem) (l3 : Int), M_makeSub_53 l2 n (mg μ ρ) l3 = (M_makeSub_53 l2 n ρ l3).map (mg μ) := by
  intro n
  induction n with
  | zero => intro ρ l3; rfl
  | succ n ih =>
    intro ρ l3
    rw [M_makeSub_53, M_makeSub_53]
    simp only [mg_259, mg_260, mg_261, mg_262, mg_263, mg_264, mg_265, mg_266, mg_267, mg_268, mg_269, mg_270, mg_271, mg_272, mg_273, mg_274, mg_275, mg_276, mg_277, mg_278, mg_279, mg_280, fa_260, fa_261, fa_262, fa_263, fa_264, fa_265, fa_266, fa_267, fa_268, fa_269, fa_270, fa_271, fa_272, fa_273, fa_274, fa_275, fa_276, fa_277, fa_278, fa_279, fa_280, fs_260, fs_261, fs_262, fs_263, fs_264, fs_265, fs_266, fs_267, fs_268, fs_269, fs_270, fs_271, fs_272, fs_273, fs_274, fs_275, fs_276, fs_277, fs_278, fs_279, fs_280, fw_259, fz_259, bmap, mbind, mite, Option.map_some, Option.map_none, Option.bind_some, mgP, ih, fr_M_isWordAt, fr_M_makeSub_86]
theorem fr_M_makeSub_53 {μ ρ : Mem}  {l2 : Int}  {n : Nat} {l3 : Int} : M_makeSub_53 l2 n (mg μ ρ) l3 = (M_makeSub_53 l2 n ρ l3).map (mg μ) := fr_M_makeSub_53_x  _ _ _
theorem fr_M_makeSub_30 {μ ρ : Mem}  {l1 : Int} {l2 : Int}  : M_makeSub_30 (mg μ ρ) l1 l2 = (M_makeSub_30 ρ l1 l2).map (mg μ) := by
  unfold M_makeSub_30
  simp only [mg_259, mg_260, mg_261, mg_262, mg_263, mg_264, mg_265, mg_266, mg_267, mg_268, mg_269, mg_270, mg_271, mg_272, mg_273, mg_274, mg_275, mg_276, mg_277, mg_278, mg_279, mg_280, fa_260, fa_261, fa_262, fa_263, fa_264, fa_265, fa_266, fa_267, fa_268, fa_269, fa_270, fa_271, fa_272, fa_273, fa_274, fa_275, fa_276, fa_277, fa_278, fa_279, fa_280, fs_260, fs_261, fs_262, fs_263, fs_264, fs_265, fs_266, fs_267, fs_268, fs_269, fs_270, fs_271, fs_272, fs_273, fs_274, fs_275, fs_276, fs_277, fs_278, fs_279, fs_280, fw_259, fz_259, bmap, mbind, mite, Option.map_some, Option.map_none, Option.bind_some, mgP, fr_M_isWordAt, fr_M_makeSub_53]
theorem fr_M_makeSub {μ ρ : Mem}  {a1 : Int}  : M_makeSub (mg μ ρ) a1 = (M_makeSub ρ a1).map (mg μ) := by
  unfold M_makeSub
  simp only [mg_259, mg_260, mg_261, mg_262, mg_263, mg_264, mg_265, mg_266, mg_267, mg_268, mg_269, mg_270, mg_271, mg_272, mg_273, mg_274, mg_275, mg_276, mg_277, mg_278, mg_279, mg_280, fa_260, fa_261, fa_262, fa_263, fa_264, fa_265, fa_266, fa_267, fa_268, fa_269, fa_270, fa_271, fa_272, fa_273, fa_274, fa_275, fa_276, fa_277, fa_278, fa_279, fa_280, fs_260, fs_261, fs_262, fs_263, fs_264, fs_265, fs_266, fs_267, fs_268, fs_269, fs_270, fs_271, fs_272, fs_273, fs_274, fs_275, fs_276, fs_277, fs_278, fs_279, fs_280, fw_259, fz_259, bmap, mbind, mite, Option.map_some, Option.map_none, Option.bind_some, mgP, fr_M_isWordAt, fr_M_makeSub_30]
theorem fr_M_makeWave {μ ρ : Mem}  {a1 : Int}  : M_makeWave (mg μ ρ) a1 = (M_makeWave ρ a1).map (mg μ) := by
  unfold M_makeWave
  simp only [mg_259, mg_260, mg_261, mg_262, mg_263, mg_264, mg_265, mg_266, mg_267, mg_268, mg_269, mg_270, mg_271, mg_272, mg_273, mg_274, mg_275, mg_276, mg_277, mg_278, mg_279, mg_280, fa_260, fa_261, fa_262, fa_263, fa_264, fa_265, fa_266, fa_267, fa_268, fa_269, fa_270, fa_271, fa_272, fa_273, fa_274, fa_275, fa_276, fa_277, fa_278, fa_279, fa_280, fs_260, fs_261, fs_262, fs_263, fs_264, fs_265, fs_266, fs_267, fs_268, fs_269, fs_270, fs_271, fs_272, fs_273, fs_274, fs_275, fs_276, fs_277, fs_278, fs_279, fs_280, fw_259, fz_259, bmap, mbind, mite, Option.map_some, Option.map_none, Option.bind_some, mgP, fr_M_isWordAt, fr_M_makeGroup]
theorem fr_M_makeCue_106_x {μ : Mem}  {l2 : Int}  : ∀ (n : Nat) (ρ : Mem) (l3 : Int), M_makeCue_106 l2 n (mg μ ρ) l3 = (M_makeCue_106 l2 n ρ l3).map (mgP μ) := by
  intro n
  induction n with
  | zero => intro ρ l3; rfl
  | succ n ih =>
    intro ρ l3
    rw [M_makeCue_106, M_makeCue_106]
    simp only [mg_259, mg_260, mg_261, mg_262, mg_263, mg_264, mg_265, mg_266, mg_267, mg_268, mg_269, mg_270, mg_271, mg_272, mg_273, mg_274, mg_275, mg_276, mg_277, mg_278, mg_279, mg_280, fa_260, fa_261, fa_262, fa_263, fa_264, fa_265, fa_266, fa_267, fa_268, fa_269, fa_270, fa_271, fa_272, fa_273, fa_274, fa_275, fa_276, fa_277, fa_278, fa_279, fa_280, fs_260, fs_261, fs_262, fs_263, fs_264, fs_265, fs_266, fs_267, fs_268, fs_269, fs_270, fs_271, fs_272, fs_273, fs_274, fs_275, fs_276, fs_277, fs_278, fs_279, fs_280, fw_259, fz_259, bmap, mbind, mite, Option.map_some, Option.map_none, Option.bind_some, mgP, ih]
theorem fr_M_makeCue_106 {μ ρ : Mem}  {l2 : Int}  {n : Nat} {l3 : Int} : M_makeCue_106 l2 n (mg μ ρ) l3 = (M_makeCue_106 l2 n ρ l3).map (mgP μ) := fr_M_makeCue_106_x  _ _ _
theorem fr_M_makeCue_30_x {μ : Mem}  {l1 : Int} {l2 : Int}  : ∀ (n : Nat) (ρ : Mem) (l3 : Int), M_makeCue_30 l1 l2 n (mg μ ρ) l3 = (M_makeCue_30 l1 l2 n ρ l3).map (mgP μ) := by
  intro n
  induction n with
  | zero => intro ρ l3; rfl
  | succ n ih =>
    intro ρ l3
    rw [M_makeCue_30, M_makeCue_30]
    simp only [mg_259, mg_260, mg_261, mg_262, mg_263, mg_264, mg_265, mg_266, mg_267, mg_268, mg_269, mg_270, mg_271, mg_272, mg_273, mg_274, mg_275, mg_276, mg_277, mg_278, mg_279, mg_280, fa_260, fa_261, fa_262, fa_263, fa_264, fa_265, fa_266, fa_267, fa_268, fa_269, fa_270, fa_271, fa_272, fa_273, fa_274, fa_275, fa_276, fa_277, fa_278, fa_279, fa_280, fs_260, fs_261, fs_262, fs_263, fs_264, fs_265, fs_266, fs_267, fs_268, fs_269, fs_270, fs_271, fs_272, fs_273, fs_274, fs_275, fs_276, fs_277, fs_278, fs_279, fs_280, fw_259, fz_259, bmap, mbind, mite, Option.map_some, Option.map_none, Option.bind_some, mgP, ih, fr_M_makeCue_106]
theorem fr_M_makeCue_30 {μ ρ : Mem}  {l1 : Int} {l2 : Int}  {n : Nat} {l3 : Int} : M_makeCue_30 l1 l2 n (mg μ ρ) l3 = (M_makeCue_30 l1 l2 n ρ l3).map (mgP μ) := fr_M_makeCue_30_x  _ _ _
theorem fr_M_makeCue_14_x {μ ρ : Mem}  {l1 : Int}  : ∀ (n : Nat) (l2 : Int), M_makeCue_14 (mg μ ρ) l1 n l2 = (M_makeCue_14 ρ l1 n l2).map (mgP μ) := by
  intro n
  induction n with
  | zero => intro l2; rfl
  | succ n ih =>
    intro l2
    rw [M_makeCue_14, M_makeCue_14]
    simp only [mg_259, mg_260, mg_261, mg_262, mg_263, mg_264, mg_265, mg_266, mg_267, mg_268, mg_269, mg_270, mg_271, mg_272, mg_273, mg_274, mg_275, mg_276, mg_277, mg_278, mg_279, mg_280, fa_260, fa_261, fa_262, fa_263, fa_264, fa_265, fa_266, fa_267, fa_268, fa_269, fa_270, fa_271, fa_272, fa_273, fa_274, fa_275, fa_276, fa_277, fa_278, fa_279, fa_280, fs_260, fs_261, fs_262, fs_263, fs_264, fs_265, fs_266, fs_267, fs_268, fs_269, fs_270, fs_271, fs_272, fs_273, fs_274, fs_275, fs_276, fs_277, fs_278, fs_279, fs_280, fw_259, fz_259, bmap, mbind, mite, Option.map_some, Option.map_none, Option.bind_some, mgP, ih, fr_M_cueNumber, fr_M_makeCue_30]
theorem fr_M_makeCue_14 {μ ρ : Mem}  {l1 : Int}  {n : Nat} {l2 : Int} : M_makeCue_14 (mg μ ρ) l1 n l2 = (M_makeCue_14 ρ l1 n l2).map (mgP μ) := fr_M_makeCue_14_x  _ _
theorem fr_M_makeCue {μ ρ : Mem}  {a1 : Int}  : M_makeCue (mg μ ρ) a1 = (M_makeCue ρ a1).map (mgP μ) := by
  unfold M_makeCue
  simp only [mg_259, mg_260, mg_261, mg_262, mg_263, mg_264, mg_265, mg_266, mg_267, mg_268, mg_269, mg_270, mg_271, mg_272, mg_273, mg_274, mg_275, mg_276, mg_277, mg_278, mg_279, mg_280, fa_260, fa_261, fa_262, fa_263, fa_264, fa_265, fa_266, fa_267, fa_268, fa_269, fa_270, fa_271, fa_272, fa_273, fa_274, fa_275, fa_276, fa_277, fa_278, fa_279, fa_280, fs_260, fs_261, fs_262, fs_263, fs_264, fs_265, fs_266, fs_267, fs_268, fs_269, fs_270, fs_271, fs_272, fs_273, fs_274, fs_275, fs_276, fs_277, fs_278, fs_279, fs_280, fw_259, fz_259, bmap, mbind, mite, Option.map_some, Option.map_none, Option.bind_some, mgP, fr_M_cueRow, fr_M_makeCue_14]
theorem fr_M_setTimes_2_x {μ : Mem}  {l1 : Int}  : ∀ (n : Nat) (ρ : Mem) (l3 : Int), M_setTimes_2 l1 n (mg μ ρ) l3 = (M_setTimes_2 l1 n ρ l3).map (mg μ) := by
  intro n
  induction n with
  | zero => intro ρ l3; rfl
  | succ n ih =>
    intro ρ l3
    rw [M_setTimes_2, M_setTimes_2]
    simp only [mg_259, mg_260, mg_261, mg_262, mg_263, mg_264, mg_265, mg_266, mg_267, mg_268, mg_269, mg_270, mg_271, mg_272, mg_273, mg_274, mg_275, mg_276, mg_277, mg_278, mg_279, mg_280, fa_260, fa_261, fa_262, fa_263, fa_264, fa_265, fa_266, fa_267, fa_268, fa_269, fa_270, fa_271, fa_272, fa_273, fa_274, fa_275, fa_276, fa_277, fa_278, fa_279, fa_280, fs_260, fs_261, fs_262, fs_263, fs_264, fs_265, fs_266, fs_267, fs_268, fs_269, fs_270, fs_271, fs_272, fs_273, fs_274, fs_275, fs_276, fs_277, fs_278, fs_279, fs_280, fw_259, fz_259, bmap, mbind, mite, Option.map_some, Option.map_none, Option.bind_some, mgP, ih, fr_M_isSignAt, fr_M_isWordAt]
theorem fr_M_setTimes_2 {μ ρ : Mem}  {l1 : Int}  {n : Nat} {l3 : Int} : M_setTimes_2 l1 n (mg μ ρ) l3 = (M_setTimes_2 l1 n ρ l3).map (mg μ) := fr_M_setTimes_2_x  _ _ _
theorem fr_M_setTimes {μ ρ : Mem}  {a1 : Int} {a2 : Int}  : M_setTimes (mg μ ρ) a1 a2 = (M_setTimes ρ a1 a2).map (mg μ) := by
  unfold M_setTimes
  simp only [mg_259, mg_260, mg_261, mg_262, mg_263, mg_264, mg_265, mg_266, mg_267, mg_268, mg_269, mg_270, mg_271, mg_272, mg_273, mg_274, mg_275, mg_276, mg_277, mg_278, mg_279, mg_280, fa_260, fa_261, fa_262, fa_263, fa_264, fa_265, fa_266, fa_267, fa_268, fa_269, fa_270, fa_271, fa_272, fa_273, fa_274, fa_275, fa_276, fa_277, fa_278, fa_279, fa_280, fs_260, fs_261, fs_262, fs_263, fs_264, fs_265, fs_266, fs_267, fs_268, fs_269, fs_270, fs_271, fs_272, fs_273, fs_274, fs_275, fs_276, fs_277, fs_278, fs_279, fs_280, fw_259, fz_259, bmap, mbind, mite, Option.map_some, Option.map_none, Option.bind_some, mgP, fr_M_setTimes_2]
theorem fr_M_numberAbove_4_x {μ ρ : Mem}  {l1 : Int}  : ∀ (n : Nat) (l2 : Int) (l3 : Int), M_numberAbove_4 (mg μ ρ) l1 n l2 l3 = M_numberAbove_4 ρ l1 n l2 l3 := by
  intro n
  induction n with
  | zero => intro l2 l3; rfl
  | succ n ih =>
    intro l2 l3
    rw [M_numberAbove_4, M_numberAbove_4]
    simp only [mg_259, mg_260, mg_261, mg_262, mg_263, mg_264, mg_265, mg_266, mg_267, mg_268, mg_269, mg_270, mg_271, mg_272, mg_273, mg_274, mg_275, mg_276, mg_277, mg_278, mg_279, mg_280, fa_260, fa_261, fa_262, fa_263, fa_264, fa_265, fa_266, fa_267, fa_268, fa_269, fa_270, fa_271, fa_272, fa_273, fa_274, fa_275, fa_276, fa_277, fa_278, fa_279, fa_280, fs_260, fs_261, fs_262, fs_263, fs_264, fs_265, fs_266, fs_267, fs_268, fs_269, fs_270, fs_271, fs_272, fs_273, fs_274, fs_275, fs_276, fs_277, fs_278, fs_279, fs_280, fw_259, fz_259, bmap, mbind, mite, Option.map_some, Option.map_none, Option.bind_some, mgP, ih, fr_M_cueNumber]
theorem fr_M_numberAbove_4 {μ ρ : Mem}  {l1 : Int}  {n : Nat} {l2 : Int} {l3 : Int} : M_numberAbove_4 (mg μ ρ) l1 n l2 l3 = M_numberAbove_4 ρ l1 n l2 l3 := fr_M_numberAbove_4_x  _ _ _
theorem fr_M_numberAbove {μ ρ : Mem}  {a1 : Int}  : M_numberAbove (mg μ ρ) a1 = M_numberAbove ρ a1 := by
  unfold M_numberAbove
  simp only [mg_259, mg_260, mg_261, mg_262, mg_263, mg_264, mg_265, mg_266, mg_267, mg_268, mg_269, mg_270, mg_271, mg_272, mg_273, mg_274, mg_275, mg_276, mg_277, mg_278, mg_279, mg_280, fa_260, fa_261, fa_262, fa_263, fa_264, fa_265, fa_266, fa_267, fa_268, fa_269, fa_270, fa_271, fa_272, fa_273, fa_274, fa_275, fa_276, fa_277, fa_278, fa_279, fa_280, fs_260, fs_261, fs_262, fs_263, fs_264, fs_265, fs_266, fs_267, fs_268, fs_269, fs_270, fs_271, fs_272, fs_273, fs_274, fs_275, fs_276, fs_277, fs_278, fs_279, fs_280, fw_259, fz_259, bmap, mbind, mite, Option.map_some, Option.map_none, Option.bind_some, mgP, fr_M_numberAbove_4]
theorem fr_M_record_135_x {μ : Mem}  {l3 : Int}  : ∀ (n : Nat) (ρ : Mem) (l4 : Int), M_record_135 l3 n (mg μ ρ) l4 = (M_record_135 l3 n ρ l4).map (mg μ) := by
  intro n
  induction n with
  | zero => intro ρ l4; rfl
  | succ n ih =>
    intro ρ l4
    rw [M_record_135, M_record_135]
    simp only [mg_259, mg_260, mg_261, mg_262, mg_263, mg_264, mg_265, mg_266, mg_267, mg_268, mg_269, mg_270, mg_271, mg_272, mg_273, mg_274, mg_275, mg_276, mg_277, mg_278, mg_279, mg_280, fa_260, fa_261, fa_262, fa_263, fa_264, fa_265, fa_266, fa_267, fa_268, fa_269, fa_270, fa_271, fa_272, fa_273, fa_274, fa_275, fa_276, fa_277, fa_278, fa_279, fa_280, fs_260, fs_261, fs_262, fs_263, fs_264, fs_265, fs_266, fs_267, fs_268, fs_269, fs_270, fs_271, fs_272, fs_273, fs_274, fs_275, fs_276, fs_277, fs_278, fs_279, fs_280, fw_259, fz_259, bmap, mbind, mite, Option.map_some, Option.map_none, Option.bind_some, mgP, ih]
theorem fr_M_record_135 {μ ρ : Mem}  {l3 : Int}  {n : Nat} {l4 : Int} : M_record_135 l3 n (mg μ ρ) l4 = (M_record_135 l3 n ρ l4).map (mg μ) := fr_M_record_135_x  _ _ _
theorem fr_M_record_120 {μ ρ : Mem}  {l1 : Int}  : M_record_120 (mg μ ρ) l1 = (M_record_120 ρ l1).map (mg μ) := by
  unfold M_record_120
  simp only [mg_259, mg_260, mg_261, mg_262, mg_263, mg_264, mg_265, mg_266, mg_267, mg_268, mg_269, mg_270, mg_271, mg_272, mg_273, mg_274, mg_275, mg_276, mg_277, mg_278, mg_279, mg_280, fa_260, fa_261, fa_262, fa_263, fa_264, fa_265, fa_266, fa_267, fa_268, fa_269, fa_270, fa_271, fa_272, fa_273, fa_274, fa_275, fa_276, fa_277, fa_278, fa_279, fa_280, fs_260, fs_261, fs_262, fs_263, fs_264, fs_265, fs_266, fs_267, fs_268, fs_269, fs_270, fs_271, fs_272, fs_273, fs_274, fs_275, fs_276, fs_277, fs_278, fs_279, fs_280, fw_259, fz_259, bmap, mbind, mite, Option.map_some, Option.map_none, Option.bind_some, mgP, fr_M_makeCue, fr_M_record_135, fr_M_setTimes]
theorem fr_M_record_26_x {μ : Mem}  {l1 : Int} {l2 : Int}  : ∀ (n : Nat) (ρ : Mem) (l3 : Int), M_record_26 l1 l2 n (mg μ ρ) l3 = (M_record_26 l1 l2 n ρ l3).map (mg μ) := by
  intro n
  induction n with
  | zero => intro ρ l3; rfl
  | succ n ih =>
    intro ρ l3
    rw [M_record_26, M_record_26]
    simp only [mg_259, mg_260, mg_261, mg_262, mg_263, mg_264, mg_265, mg_266, mg_267, mg_268, mg_269, mg_270, mg_271, mg_272, mg_273, mg_274, mg_275, mg_276, mg_277, mg_278, mg_279, mg_280, fa_260, fa_261, fa_262, fa_263, fa_264, fa_265, fa_266, fa_267, fa_268, fa_269, fa_270, fa_271, fa_272, fa_273, fa_274, fa_275, fa_276, fa_277, fa_278, fa_279, fa_280, fs_260, fs_261, fs_262, fs_263, fs_264, fs_265, fs_266, fs_267, fs_268, fs_269, fs_270, fs_271, fs_272, fs_273, fs_274, fs_275, fs_276, fs_277, fs_278, fs_279, fs_280, fw_259, fz_259, bmap, mbind, mite, Option.map_some, Option.map_none, Option.bind_some, mgP, ih, fr_M_cueNumber, fr_M_record_120, fr_M_trackedValue]
theorem fr_M_record_26 {μ ρ : Mem}  {l1 : Int} {l2 : Int}  {n : Nat} {l3 : Int} : M_record_26 l1 l2 n (mg μ ρ) l3 = (M_record_26 l1 l2 n ρ l3).map (mg μ) := fr_M_record_26_x  _ _ _
theorem fr_M_record {μ ρ : Mem}  {a1 : Int}  : M_record (mg μ ρ) a1 = (M_record ρ a1).map (mg μ) := by
  unfold M_record
  simp only [mg_259, mg_260, mg_261, mg_262, mg_263, mg_264, mg_265, mg_266, mg_267, mg_268, mg_269, mg_270, mg_271, mg_272, mg_273, mg_274, mg_275, mg_276, mg_277, mg_278, mg_279, mg_280, fa_260, fa_261, fa_262, fa_263, fa_264, fa_265, fa_266, fa_267, fa_268, fa_269, fa_270, fa_271, fa_272, fa_273, fa_274, fa_275, fa_276, fa_277, fa_278, fa_279, fa_280, fs_260, fs_261, fs_262, fs_263, fs_264, fs_265, fs_266, fs_267, fs_268, fs_269, fs_270, fs_271, fs_272, fs_273, fs_274, fs_275, fs_276, fs_277, fs_278, fs_279, fs_280, fw_259, fz_259, bmap, mbind, mite, Option.map_some, Option.map_none, Option.bind_some, mgP, fr_M_cueRow, fr_M_isWordAt, fr_M_numberAbove, fr_M_record_26]
theorem fr_M_clear_2_x {μ : Mem}    : ∀ (n : Nat) (ρ : Mem) (l1 : Int), M_clear_2 n (mg μ ρ) l1 = (M_clear_2 n ρ l1).map (mg μ) := by
  intro n
  induction n with
  | zero => intro ρ l1; rfl
  | succ n ih =>
    intro ρ l1
    rw [M_clear_2, M_clear_2]
    simp only [mg_259, mg_260, mg_261, mg_262, mg_263, mg_264, mg_265, mg_266, mg_267, mg_268, mg_269, mg_270, mg_271, mg_272, mg_273, mg_274, mg_275, mg_276, mg_277, mg_278, mg_279, mg_280, fa_260, fa_261, fa_262, fa_263, fa_264, fa_265, fa_266, fa_267, fa_268, fa_269, fa_270, fa_271, fa_272, fa_273, fa_274, fa_275, fa_276, fa_277, fa_278, fa_279, fa_280, fs_260, fs_261, fs_262, fs_263, fs_264, fs_265, fs_266, fs_267, fs_268, fs_269, fs_270, fs_271, fs_272, fs_273, fs_274, fs_275, fs_276, fs_277, fs_278, fs_279, fs_280, fw_259, fz_259, bmap, mbind, mite, Option.map_some, Option.map_none, Option.bind_some, mgP, ih]
theorem fr_M_clear_2 {μ ρ : Mem}    {n : Nat} {l1 : Int} : M_clear_2 n (mg μ ρ) l1 = (M_clear_2 n ρ l1).map (mg μ) := fr_M_clear_2_x  _ _ _
theorem fr_M_clear {μ ρ : Mem}    : M_clear (mg μ ρ) = (M_clear ρ).map (mg μ) := by
  unfold M_clear
  simp only [mg_259, mg_260, mg_261, mg_262, mg_263, mg_264, mg_265, mg_266, mg_267, mg_268, mg_269, mg_270, mg_271, mg_272, mg_273, mg_274, mg_275, mg_276, mg_277, mg_278, mg_279, mg_280, fa_260, fa_261, fa_262, fa_263, fa_264, fa_265, fa_266, fa_267, fa_268, fa_269, fa_270, fa_271, fa_272, fa_273, fa_274, fa_275, fa_276, fa_277, fa_278, fa_279, fa_280, fs_260, fs_261, fs_262, fs_263, fs_264, fs_265, fs_266, fs_267, fs_268, fs_269, fs_270, fs_271, fs_272, fs_273, fs_274, fs_275, fs_276, fs_277, fs_278, fs_279, fs_280, fw_259, fz_259, bmap, mbind, mite, Option.map_some, Option.map_none, Option.bind_some, mgP, fr_M_clear_2]
theorem fr_M_update_64 {μ ρ : Mem} {K11 J11 : Mem → Int → Option (Mem)} {l1 : Int} {l2 : Int} {s1 : Int} {s2 : Int} {s4 : Int} (hK11 : ∀ (ρ : Mem) (l2 : Int), K11 (mg μ ρ) l2 = (J11 ρ l2).map (mg μ)) : M_update_64 K11 (mg μ ρ) l1 l2 s1 s2 s4 = (M_update_64 J11 ρ l1 l2 s1 s2 s4).map (mg μ) := by
  unfold M_update_64
  simp only [mg_259, mg_260, mg_261, mg_262, mg_263, mg_264, mg_265, mg_266, mg_267, mg_268, mg_269, mg_270, mg_271, mg_272, mg_273, mg_274, mg_275, mg_276, mg_277, mg_278, mg_279, mg_280, fa_260, fa_261, fa_262, fa_263, fa_264, fa_265, fa_266, fa_267, fa_268, fa_269, fa_270, fa_271, fa_272, fa_273, fa_274, fa_275, fa_276, fa_277, fa_278, fa_279, fa_280, fs_260, fs_261, fs_262, fs_263, fs_264, fs_265, fs_266, fs_267, fs_268, fs_269, fs_270, fs_271, fs_272, fs_273, fs_274, fs_275, fs_276, fs_277, fs_278, fs_279, fs_280, fw_259, fz_259, bmap, mbind, mite, Option.map_some, Option.map_none, Option.bind_some, mgP, hK11, fr_M_cueRow]
theorem fr_M_update_11_x {μ : Mem}  {l1 : Int}  : ∀ (n : Nat) (ρ : Mem) (l2 : Int), M_update_11 l1 n (mg μ ρ) l2 = (M_update_11 l1 n ρ l2).map (mg μ) := by
  intro n
  induction n with
  | zero => intro ρ l2; rfl
  | succ n ih =>
    intro ρ l2
    rw [M_update_11, M_update_11]
    simp only [mg_259, mg_260, mg_261, mg_262, mg_263, mg_264, mg_265, mg_266, mg_267, mg_268, mg_269, mg_270, mg_271, mg_272, mg_273, mg_274, mg_275, mg_276, mg_277, mg_278, mg_279, mg_280, fa_260, fa_261, fa_262, fa_263, fa_264, fa_265, fa_266, fa_267, fa_268, fa_269, fa_270, fa_271, fa_272, fa_273, fa_274, fa_275, fa_276, fa_277, fa_278, fa_279, fa_280, fs_260, fs_261, fs_262, fs_263, fs_264, fs_265, fs_266, fs_267, fs_268, fs_269, fs_270, fs_271, fs_272, fs_273, fs_274, fs_275, fs_276, fs_277, fs_278, fs_279, fs_280, fw_259, fz_259, bmap, mbind, mite, Option.map_some, Option.map_none, Option.bind_some, mgP, ih, fr_M_clear, fr_M_originOf, fr_M_update_64 ih]
theorem fr_M_update_11 {μ ρ : Mem}  {l1 : Int}  {n : Nat} {l2 : Int} : M_update_11 l1 n (mg μ ρ) l2 = (M_update_11 l1 n ρ l2).map (mg μ) := fr_M_update_11_x  _ _ _
theorem fr_M_update {μ ρ : Mem}    : M_update (mg μ ρ) = (M_update ρ).map (mg μ) := by
  unfold M_update
  simp only [mg_259, mg_260, mg_261, mg_262, mg_263, mg_264, mg_265, mg_266, mg_267, mg_268, mg_269, mg_270, mg_271, mg_272, mg_273, mg_274, mg_275, mg_276, mg_277, mg_278, mg_279, mg_280, fa_260, fa_261, fa_262, fa_263, fa_264, fa_265, fa_266, fa_267, fa_268, fa_269, fa_270, fa_271, fa_272, fa_273, fa_274, fa_275, fa_276, fa_277, fa_278, fa_279, fa_280, fs_260, fs_261, fs_262, fs_263, fs_264, fs_265, fs_266, fs_267, fs_268, fs_269, fs_270, fs_271, fs_272, fs_273, fs_274, fs_275, fs_276, fs_277, fs_278, fs_279, fs_280, fw_259, fz_259, bmap, mbind, mite, Option.map_some, Option.map_none, Option.bind_some, mgP, fr_M_numberUpTo, fr_M_update_11]
theorem fr_M_deleteCue {μ ρ : Mem}  {a1 : Int}  : M_deleteCue (mg μ ρ) a1 = (M_deleteCue ρ a1).map (mg μ) := by
  unfold M_deleteCue
  simp only [mg_259, mg_260, mg_261, mg_262, mg_263, mg_264, mg_265, mg_266, mg_267, mg_268, mg_269, mg_270, mg_271, mg_272, mg_273, mg_274, mg_275, mg_276, mg_277, mg_278, mg_279, mg_280, fa_260, fa_261, fa_262, fa_263, fa_264, fa_265, fa_266, fa_267, fa_268, fa_269, fa_270, fa_271, fa_272, fa_273, fa_274, fa_275, fa_276, fa_277, fa_278, fa_279, fa_280, fs_260, fs_261, fs_262, fs_263, fs_264, fs_265, fs_266, fs_267, fs_268, fs_269, fs_270, fs_271, fs_272, fs_273, fs_274, fs_275, fs_276, fs_277, fs_278, fs_279, fs_280, fw_259, fz_259, bmap, mbind, mite, Option.map_some, Option.map_none, Option.bind_some, mgP, fr_M_cueRow]
theorem fr_M_copyCue_46_x {μ : Mem}  {l1 : Int} {l2 : Int}  : ∀ (n : Nat) (ρ : Mem) (l3 : Int), M_copyCue_46 l1 l2 n (mg μ ρ) l3 = (M_copyCue_46 l1 l2 n ρ l3).map (mg μ) := by
  intro n
  induction n with
  | zero => intro ρ l3; rfl
  | succ n ih =>
    intro ρ l3
    rw [M_copyCue_46, M_copyCue_46]
    simp only [mg_259, mg_260, mg_261, mg_262, mg_263, mg_264, mg_265, mg_266, mg_267, mg_268, mg_269, mg_270, mg_271, mg_272, mg_273, mg_274, mg_275, mg_276, mg_277, mg_278, mg_279, mg_280, fa_260, fa_261, fa_262, fa_263, fa_264, fa_265, fa_266, fa_267, fa_268, fa_269, fa_270, fa_271, fa_272, fa_273, fa_274, fa_275, fa_276, fa_277, fa_278, fa_279, fa_280, fs_260, fs_261, fs_262, fs_263, fs_264, fs_265, fs_266, fs_267, fs_268, fs_269, fs_270, fs_271, fs_272, fs_273, fs_274, fs_275, fs_276, fs_277, fs_278, fs_279, fs_280, fw_259, fz_259, bmap, mbind, mite, Option.map_some, Option.map_none, Option.bind_some, mgP, ih]
theorem fr_M_copyCue_46 {μ ρ : Mem}  {l1 : Int} {l2 : Int}  {n : Nat} {l3 : Int} : M_copyCue_46 l1 l2 n (mg μ ρ) l3 = (M_copyCue_46 l1 l2 n ρ l3).map (mg μ) := fr_M_copyCue_46_x  _ _ _
theorem fr_M_copyCue_2_x {μ : Mem}  {l1 : Int} {l2 : Int}  : ∀ (n : Nat) (ρ : Mem) (l3 : Int), M_copyCue_2 l1 l2 n (mg μ ρ) l3 = (M_copyCue_2 l1 l2 n ρ l3).map (mg μ) := by
  intro n
  induction n with
  | zero => intro ρ l3; rfl
  | succ n ih =>
    intro ρ l3
    rw [M_copyCue_2, M_copyCue_2]
    simp only [mg_259, mg_260, mg_261, mg_262, mg_263, mg_264, mg_265, mg_266, mg_267, mg_268, mg_269, mg_270, mg_271, mg_272, mg_273, mg_274, mg_275, mg_276, mg_277, mg_278, mg_279, mg_280, fa_260, fa_261, fa_262, fa_263, fa_264, fa_265, fa_266, fa_267, fa_268, fa_269, fa_270, fa_271, fa_272, fa_273, fa_274, fa_275, fa_276, fa_277, fa_278, fa_279, fa_280, fs_260, fs_261, fs_262, fs_263, fs_264, fs_265, fs_266, fs_267, fs_268, fs_269, fs_270, fs_271, fs_272, fs_273, fs_274, fs_275, fs_276, fs_277, fs_278, fs_279, fs_280, fw_259, fz_259, bmap, mbind, mite, Option.map_some, Option.map_none, Option.bind_some, mgP, ih, fr_M_copyCue_46]
theorem fr_M_copyCue_2 {μ ρ : Mem}  {l1 : Int} {l2 : Int}  {n : Nat} {l3 : Int} : M_copyCue_2 l1 l2 n (mg μ ρ) l3 = (M_copyCue_2 l1 l2 n ρ l3).map (mg μ) := fr_M_copyCue_2_x  _ _ _
theorem fr_M_copyCue {μ ρ : Mem}  {a1 : Int} {a2 : Int}  : M_copyCue (mg μ ρ) a1 a2 = (M_copyCue ρ a1 a2).map (mg μ) := by
  unfold M_copyCue
  simp only [mg_259, mg_260, mg_261, mg_262, mg_263, mg_264, mg_265, mg_266, mg_267, mg_268, mg_269, mg_270, mg_271, mg_272, mg_273, mg_274, mg_275, mg_276, mg_277, mg_278, mg_279, mg_280, fa_260, fa_261, fa_262, fa_263, fa_264, fa_265, fa_266, fa_267, fa_268, fa_269, fa_270, fa_271, fa_272, fa_273, fa_274, fa_275, fa_276, fa_277, fa_278, fa_279, fa_280, fs_260, fs_261, fs_262, fs_263, fs_264, fs_265, fs_266, fs_267, fs_268, fs_269, fs_270, fs_271, fs_272, fs_273, fs_274, fs_275, fs_276, fs_277, fs_278, fs_279, fs_280, fw_259, fz_259, bmap, mbind, mite, Option.map_some, Option.map_none, Option.bind_some, mgP, fr_M_copyCue_2]
theorem fr_M_block_8_x {μ : Mem}  {l1 : Int} {l2 : Int}  : ∀ (n : Nat) (ρ : Mem) (l3 : Int), M_block_8 l1 l2 n (mg μ ρ) l3 = (M_block_8 l1 l2 n ρ l3).map (mg μ) := by
  intro n
  induction n with
  | zero => intro ρ l3; rfl
  | succ n ih =>
    intro ρ l3
    rw [M_block_8, M_block_8]
    simp only [mg_259, mg_260, mg_261, mg_262, mg_263, mg_264, mg_265, mg_266, mg_267, mg_268, mg_269, mg_270, mg_271, mg_272, mg_273, mg_274, mg_275, mg_276, mg_277, mg_278, mg_279, mg_280, fa_260, fa_261, fa_262, fa_263, fa_264, fa_265, fa_266, fa_267, fa_268, fa_269, fa_270, fa_271, fa_272, fa_273, fa_274, fa_275, fa_276, fa_277, fa_278, fa_279, fa_280, fs_260, fs_261, fs_262, fs_263, fs_264, fs_265, fs_266, fs_267, fs_268, fs_269, fs_270, fs_271, fs_272, fs_273, fs_274, fs_275, fs_276, fs_277, fs_278, fs_279, fs_280, fw_259, fz_259, bmap, mbind, mite, Option.map_some, Option.map_none, Option.bind_some, mgP, ih, fr_M_trackedValue]
theorem fr_M_block_8 {μ ρ : Mem}  {l1 : Int} {l2 : Int}  {n : Nat} {l3 : Int} : M_block_8 l1 l2 n (mg μ ρ) l3 = (M_block_8 l1 l2 n ρ l3).map (mg μ) := fr_M_block_8_x  _ _ _
theorem fr_M_block {μ ρ : Mem}  {a1 : Int}  : M_block (mg μ ρ) a1 = (M_block ρ a1).map (mg μ) := by
  unfold M_block
  simp only [mg_259, mg_260, mg_261, mg_262, mg_263, mg_264, mg_265, mg_266, mg_267, mg_268, mg_269, mg_270, mg_271, mg_272, mg_273, mg_274, mg_275, mg_276, mg_277, mg_278, mg_279, mg_280, fa_260, fa_261, fa_262, fa_263, fa_264, fa_265, fa_266, fa_267, fa_268, fa_269, fa_270, fa_271, fa_272, fa_273, fa_274, fa_275, fa_276, fa_277, fa_278, fa_279, fa_280, fs_260, fs_261, fs_262, fs_263, fs_264, fs_265, fs_266, fs_267, fs_268, fs_269, fs_270, fs_271, fs_272, fs_273, fs_274, fs_275, fs_276, fs_277, fs_278, fs_279, fs_280, fw_259, fz_259, bmap, mbind, mite, Option.map_some, Option.map_none, Option.bind_some, mgP, fr_M_block_8, fr_M_cueRow]
theorem fr_M_unblock_17_x {μ : Mem}  {l2 : Int} {l3 : Int}  : ∀ (n : Nat) (ρ : Mem) (l4 : Int), M_unblock_17 l2 l3 n (mg μ ρ) l4 = (M_unblock_17 l2 l3 n ρ l4).map (mg μ) := by
  intro n
  induction n with
  | zero => intro ρ l4; rfl
  | succ n ih =>
    intro ρ l4
    rw [M_unblock_17, M_unblock_17]
    simp only [mg_259, mg_260, mg_261, mg_262, mg_263, mg_264, mg_265, mg_266, mg_267, mg_268, mg_269, mg_270, mg_271, mg_272, mg_273, mg_274, mg_275, mg_276, mg_277, mg_278, mg_279, mg_280, fa_260, fa_261, fa_262, fa_263, fa_264, fa_265, fa_266, fa_267, fa_268, fa_269, fa_270, fa_271, fa_272, fa_273, fa_274, fa_275, fa_276, fa_277, fa_278, fa_279, fa_280, fs_260, fs_261, fs_262, fs_263, fs_264, fs_265, fs_266, fs_267, fs_268, fs_269, fs_270, fs_271, fs_272, fs_273, fs_274, fs_275, fs_276, fs_277, fs_278, fs_279, fs_280, fw_259, fz_259, bmap, mbind, mite, Option.map_some, Option.map_none, Option.bind_some, mgP, ih, fr_M_trackedValue]
theorem fr_M_unblock_17 {μ ρ : Mem}  {l2 : Int} {l3 : Int}  {n : Nat} {l4 : Int} : M_unblock_17 l2 l3 n (mg μ ρ) l4 = (M_unblock_17 l2 l3 n ρ l4).map (mg μ) := fr_M_unblock_17_x  _ _ _
theorem fr_M_unblock {μ ρ : Mem}  {a1 : Int} {a2 : Int}  : M_unblock (mg μ ρ) a1 a2 = (M_unblock ρ a1 a2).map (mg μ) := by
  unfold M_unblock
  simp only [mg_259, mg_260, mg_261, mg_262, mg_263, mg_264, mg_265, mg_266, mg_267, mg_268, mg_269, mg_270, mg_271, mg_272, mg_273, mg_274, mg_275, mg_276, mg_277, mg_278, mg_279, mg_280, fa_260, fa_261, fa_262, fa_263, fa_264, fa_265, fa_266, fa_267, fa_268, fa_269, fa_270, fa_271, fa_272, fa_273, fa_274, fa_275, fa_276, fa_277, fa_278, fa_279, fa_280, fs_260, fs_261, fs_262, fs_263, fs_264, fs_265, fs_266, fs_267, fs_268, fs_269, fs_270, fs_271, fs_272, fs_273, fs_274, fs_275, fs_276, fs_277, fs_278, fs_279, fs_280, fw_259, fz_259, bmap, mbind, mite, Option.map_some, Option.map_none, Option.bind_some, mgP, fr_M_cueRow, fr_M_unblock_17]
theorem fr_M_sneak_2_x {μ : Mem}  {l1 : Int}  : ∀ (n : Nat) (ρ : Mem) (l2 : Int), M_sneak_2 l1 n (mg μ ρ) l2 = (M_sneak_2 l1 n ρ l2).map (mg μ) := by
  intro n
  induction n with
  | zero => intro ρ l2; rfl
  | succ n ih =>
    intro ρ l2
    rw [M_sneak_2, M_sneak_2]
    simp only [mg_259, mg_260, mg_261, mg_262, mg_263, mg_264, mg_265, mg_266, mg_267, mg_268, mg_269, mg_270, mg_271, mg_272, mg_273, mg_274, mg_275, mg_276, mg_277, mg_278, mg_279, mg_280, fa_260, fa_261, fa_262, fa_263, fa_264, fa_265, fa_266, fa_267, fa_268, fa_269, fa_270, fa_271, fa_272, fa_273, fa_274, fa_275, fa_276, fa_277, fa_278, fa_279, fa_280, fs_260, fs_261, fs_262, fs_263, fs_264, fs_265, fs_266, fs_267, fs_268, fs_269, fs_270, fs_271, fs_272, fs_273, fs_274, fs_275, fs_276, fs_277, fs_278, fs_279, fs_280, fw_259, fz_259, bmap, mbind, mite, Option.map_some, Option.map_none, Option.bind_some, mgP, ih, fr_M_clear, fr_M_levelOf]
theorem fr_M_sneak_2 {μ ρ : Mem}  {l1 : Int}  {n : Nat} {l2 : Int} : M_sneak_2 l1 n (mg μ ρ) l2 = (M_sneak_2 l1 n ρ l2).map (mg μ) := fr_M_sneak_2_x  _ _ _
theorem fr_M_sneak {μ ρ : Mem}  {a1 : Int}  : M_sneak (mg μ ρ) a1 = (M_sneak ρ a1).map (mg μ) := by
  unfold M_sneak
  simp only [mg_259, mg_260, mg_261, mg_262, mg_263, mg_264, mg_265, mg_266, mg_267, mg_268, mg_269, mg_270, mg_271, mg_272, mg_273, mg_274, mg_275, mg_276, mg_277, mg_278, mg_279, mg_280, fa_260, fa_261, fa_262, fa_263, fa_264, fa_265, fa_266, fa_267, fa_268, fa_269, fa_270, fa_271, fa_272, fa_273, fa_274, fa_275, fa_276, fa_277, fa_278, fa_279, fa_280, fs_260, fs_261, fs_262, fs_263, fs_264, fs_265, fs_266, fs_267, fs_268, fs_269, fs_270, fs_271, fs_272, fs_273, fs_274, fs_275, fs_276, fs_277, fs_278, fs_279, fs_280, fw_259, fz_259, bmap, mbind, mite, Option.map_some, Option.map_none, Option.bind_some, mgP, fr_M_sneak_2]
theorem fr_M_actOther_86 {μ ρ : Mem} {K63 J63 : Mem → Int → Option (Mem)} {l2 : Int} {l3 : Int} (hK63 : ∀ (ρ : Mem) (l3 : Int), K63 (mg μ ρ) l3 = (J63 ρ l3).map (mg μ)) : M_actOther_86 K63 (mg μ ρ) l2 l3 = (M_actOther_86 J63 ρ l2 l3).map (mg μ) := by
  unfold M_actOther_86
  simp only [mg_259, mg_260, mg_261, mg_262, mg_263, mg_264, mg_265, mg_266, mg_267, mg_268, mg_269, mg_270, mg_271, mg_272, mg_273, mg_274, mg_275, mg_276, mg_277, mg_278, mg_279, mg_280, fa_260, fa_261, fa_262, fa_263, fa_264, fa_265, fa_266, fa_267, fa_268, fa_269, fa_270, fa_271, fa_272, fa_273, fa_274, fa_275, fa_276, fa_277, fa_278, fa_279, fa_280, fs_260, fs_261, fs_262, fs_263, fs_264, fs_265, fs_266, fs_267, fs_268, fs_269, fs_270, fs_271, fs_272, fs_273, fs_274, fs_275, fs_276, fs_277, fs_278, fs_279, fs_280, fw_259, fz_259, bmap, mbind, mite, Option.map_some, Option.map_none, Option.bind_some, mgP, hK63]
theorem fr_M_actOther_63_x {μ : Mem}  {l2 : Int}  : ∀ (n : Nat) (ρ : Mem) (l3 : Int), M_actOther_63 l2 n (mg μ ρ) l3 = (M_actOther_63 l2 n ρ l3).map (mg μ) := by
  intro n
  induction n with
  | zero => intro ρ l3; rfl
  | succ n ih =>
    intro ρ l3
    rw [M_actOther_63, M_actOther_63]
    simp only [mg_259, mg_260, mg_261, mg_262, mg_263, mg_264, mg_265, mg_266, mg_267, mg_268, mg_269, mg_270, mg_271, mg_272, mg_273, mg_274, mg_275, mg_276, mg_277, mg_278, mg_279, mg_280, fa_260, fa_261, fa_262, fa_263, fa_264, fa_265, fa_266, fa_267, fa_268, fa_269, fa_270, fa_271, fa_272, fa_273, fa_274, fa_275, fa_276, fa_277, fa_278, fa_279, fa_280, fs_260, fs_261, fs_262, fs_263, fs_264, fs_265, fs_266, fs_267, fs_268, fs_269, fs_270, fs_271, fs_272, fs_273, fs_274, fs_275, fs_276, fs_277, fs_278, fs_279, fs_280, fw_259, fz_259, bmap, mbind, mite, Option.map_some, Option.map_none, Option.bind_some, mgP, ih, fr_M_actOther_86 ih, fr_M_isWordAt]
theorem fr_M_actOther_63 {μ ρ : Mem}  {l2 : Int}  {n : Nat} {l3 : Int} : M_actOther_63 l2 n (mg μ ρ) l3 = (M_actOther_63 l2 n ρ l3).map (mg μ) := fr_M_actOther_63_x  _ _ _
theorem fr_M_actOther_139 {μ ρ : Mem}  {l2 : Int} {s1 : Int} {s2 : Int}  : M_actOther_139 (mg μ ρ) l2 s1 s2 = (M_actOther_139 ρ l2 s1 s2).map (mg μ) := by
  unfold M_actOther_139
  simp only [mg_259, mg_260, mg_261, mg_262, mg_263, mg_264, mg_265, mg_266, mg_267, mg_268, mg_269, mg_270, mg_271, mg_272, mg_273, mg_274, mg_275, mg_276, mg_277, mg_278, mg_279, mg_280, fa_260, fa_261, fa_262, fa_263, fa_264, fa_265, fa_266, fa_267, fa_268, fa_269, fa_270, fa_271, fa_272, fa_273, fa_274, fa_275, fa_276, fa_277, fa_278, fa_279, fa_280, fs_260, fs_261, fs_262, fs_263, fs_264, fs_265, fs_266, fs_267, fs_268, fs_269, fs_270, fs_271, fs_272, fs_273, fs_274, fs_275, fs_276, fs_277, fs_278, fs_279, fs_280, fw_259, fz_259, bmap, mbind, mite, Option.map_some, Option.map_none, Option.bind_some, mgP, fr_M_isWordAt]
theorem fr_M_actOther {μ ρ : Mem}  {a1 : Int} {a2 : Int}  : M_actOther (mg μ ρ) a1 a2 = (M_actOther ρ a1 a2).map (mg μ) := by
  unfold M_actOther
  simp only [mg_259, mg_260, mg_261, mg_262, mg_263, mg_264, mg_265, mg_266, mg_267, mg_268, mg_269, mg_270, mg_271, mg_272, mg_273, mg_274, mg_275, mg_276, mg_277, mg_278, mg_279, mg_280, fa_260, fa_261, fa_262, fa_263, fa_264, fa_265, fa_266, fa_267, fa_268, fa_269, fa_270, fa_271, fa_272, fa_273, fa_274, fa_275, fa_276, fa_277, fa_278, fa_279, fa_280, fs_260, fs_261, fs_262, fs_263, fs_264, fs_265, fs_266, fs_267, fs_268, fs_269, fs_270, fs_271, fs_272, fs_273, fs_274, fs_275, fs_276, fs_277, fs_278, fs_279, fs_280, fw_259, fz_259, bmap, mbind, mite, Option.map_some, Option.map_none, Option.bind_some, mgP, fr_M_actOther_139, fr_M_actOther_63, fr_M_isWordAt, fr_M_sneak, fr_M_values]
theorem fr_M_actCue_184 {μ ρ : Mem}  {l1 : Int} {l2 : Int}  : M_actCue_184 (mg μ ρ) l1 l2 = (M_actCue_184 ρ l1 l2).map (mg μ) := by
  unfold M_actCue_184
  simp only [mg_259, mg_260, mg_261, mg_262, mg_263, mg_264, mg_265, mg_266, mg_267, mg_268, mg_269, mg_270, mg_271, mg_272, mg_273, mg_274, mg_275, mg_276, mg_277, mg_278, mg_279, mg_280, fa_260, fa_261, fa_262, fa_263, fa_264, fa_265, fa_266, fa_267, fa_268, fa_269, fa_270, fa_271, fa_272, fa_273, fa_274, fa_275, fa_276, fa_277, fa_278, fa_279, fa_280, fs_260, fs_261, fs_262, fs_263, fs_264, fs_265, fs_266, fs_267, fs_268, fs_269, fs_270, fs_271, fs_272, fs_273, fs_274, fs_275, fs_276, fs_277, fs_278, fs_279, fs_280, fw_259, fz_259, bmap, mbind, mite, Option.map_some, Option.map_none, Option.bind_some, mgP, fr_M_actOther]
theorem fr_M_actCue {μ ρ : Mem}  {a1 : Int}  : M_actCue (mg μ ρ) a1 = (M_actCue ρ a1).map (mg μ) := by
  unfold M_actCue
  simp only [mg_259, mg_260, mg_261, mg_262, mg_263, mg_264, mg_265, mg_266, mg_267, mg_268, mg_269, mg_270, mg_271, mg_272, mg_273, mg_274, mg_275, mg_276, mg_277, mg_278, mg_279, mg_280, fa_260, fa_261, fa_262, fa_263, fa_264, fa_265, fa_266, fa_267, fa_268, fa_269, fa_270, fa_271, fa_272, fa_273, fa_274, fa_275, fa_276, fa_277, fa_278, fa_279, fa_280, fs_260, fs_261, fs_262, fs_263, fs_264, fs_265, fs_266, fs_267, fs_268, fs_269, fs_270, fs_271, fs_272, fs_273, fs_274, fs_275, fs_276, fs_277, fs_278, fs_279, fs_280, fw_259, fz_259, bmap, mbind, mite, Option.map_some, Option.map_none, Option.bind_some, mgP, fr_M_actCue_184, fr_M_block, fr_M_clear, fr_M_copyCue, fr_M_cueRow, fr_M_deleteCue, fr_M_makeCue, fr_M_numberUpTo, fr_M_record, fr_M_setTimes, fr_M_unblock, fr_M_update]
theorem fr_M_act_109_x {μ : Mem}    : ∀ (n : Nat) (ρ : Mem) (l2 : Int), M_act_109 n (mg μ ρ) l2 = (M_act_109 n ρ l2).map (mg μ) := by
  intro n
  induction n with
  | zero => intro ρ l2; rfl
  | succ n ih =>
    intro ρ l2
    rw [M_act_109, M_act_109]
    simp only [mg_259, mg_260, mg_261, mg_262, mg_263, mg_264, mg_265, mg_266, mg_267, mg_268, mg_269, mg_270, mg_271, mg_272, mg_273, mg_274, mg_275, mg_276, mg_277, mg_278, mg_279, mg_280, fa_260, fa_261, fa_262, fa_263, fa_264, fa_265, fa_266, fa_267, fa_268, fa_269, fa_270, fa_271, fa_272, fa_273, fa_274, fa_275, fa_276, fa_277, fa_278, fa_279, fa_280, fs_260, fs_261, fs_262, fs_263, fs_264, fs_265, fs_266, fs_267, fs_268, fs_269, fs_270, fs_271, fs_272, fs_273, fs_274, fs_275, fs_276, fs_277, fs_278, fs_279, fs_280, fw_259, fz_259, bmap, mbind, mite, Option.map_some, Option.map_none, Option.bind_some, mgP, ih, fr_M_unpatch]
theorem fr_M_act_109 {μ ρ : Mem}    {n : Nat} {l2 : Int} : M_act_109 n (mg μ ρ) l2 = (M_act_109 n ρ l2).map (mg μ) := fr_M_act_109_x  _ _ _
theorem fr_M_act_234 {μ ρ : Mem}  {l1 : Int}  : M_act_234 (mg μ ρ) l1 = (M_act_234 ρ l1).map (mg μ) := by
  unfold M_act_234
  simp only [mg_259, mg_260, mg_261, mg_262, mg_263, mg_264, mg_265, mg_266, mg_267, mg_268, mg_269, mg_270, mg_271, mg_272, mg_273, mg_274, mg_275, mg_276, mg_277, mg_278, mg_279, mg_280, fa_260, fa_261, fa_262, fa_263, fa_264, fa_265, fa_266, fa_267, fa_268, fa_269, fa_270, fa_271, fa_272, fa_273, fa_274, fa_275, fa_276, fa_277, fa_278, fa_279, fa_280, fs_260, fs_261, fs_262, fs_263, fs_264, fs_265, fs_266, fs_267, fs_268, fs_269, fs_270, fs_271, fs_272, fs_273, fs_274, fs_275, fs_276, fs_277, fs_278, fs_279, fs_280, fw_259, fz_259, bmap, mbind, mite, Option.map_some, Option.map_none, Option.bind_some, mgP, fr_M_actCue]
theorem fr_M_act_20 {μ ρ : Mem}  {s0 : Int}  : M_act_20 (mg μ ρ) s0 = (M_act_20 ρ s0).map (mg μ) := by
  unfold M_act_20
  simp only [mg_259, mg_260, mg_261, mg_262, mg_263, mg_264, mg_265, mg_266, mg_267, mg_268, mg_269, mg_270, mg_271, mg_272, mg_273, mg_274, mg_275, mg_276, mg_277, mg_278, mg_279, mg_280, fa_260, fa_261, fa_262, fa_263, fa_264, fa_265, fa_266, fa_267, fa_268, fa_269, fa_270, fa_271, fa_272, fa_273, fa_274, fa_275, fa_276, fa_277, fa_278, fa_279, fa_280, fs_260, fs_261, fs_262, fs_263, fs_264, fs_265, fs_266, fs_267, fs_268, fs_269, fs_270, fs_271, fs_272, fs_273, fs_274, fs_275, fs_276, fs_277, fs_278, fs_279, fs_280, fw_259, fz_259, bmap, mbind, mite, Option.map_some, Option.map_none, Option.bind_some, mgP, fr_M_act_109, fr_M_act_234, fr_M_isSignAt, fr_M_makeGroup, fr_M_makePalette, fr_M_makeSub, fr_M_makeWave, fr_M_patch, fr_M_values]
theorem fr_M_act {μ ρ : Mem}    : M_act (mg μ ρ) = (M_act ρ).map (mg μ) := by
  unfold M_act
  simp only [mg_259, mg_260, mg_261, mg_262, mg_263, mg_264, mg_265, mg_266, mg_267, mg_268, mg_269, mg_270, mg_271, mg_272, mg_273, mg_274, mg_275, mg_276, mg_277, mg_278, mg_279, mg_280, fa_260, fa_261, fa_262, fa_263, fa_264, fa_265, fa_266, fa_267, fa_268, fa_269, fa_270, fa_271, fa_272, fa_273, fa_274, fa_275, fa_276, fa_277, fa_278, fa_279, fa_280, fs_260, fs_261, fs_262, fs_263, fs_264, fs_265, fs_266, fs_267, fs_268, fs_269, fs_270, fs_271, fs_272, fs_273, fs_274, fs_275, fs_276, fs_277, fs_278, fs_279, fs_280, fw_259, fz_259, bmap, mbind, mite, Option.map_some, Option.map_none, Option.bind_some, mgP, fr_M_act_20]
theorem fr_M_keepAhead_39_x {μ : Mem}    : ∀ (n : Nat) (ρ : Mem) (l1 : Int), M_keepAhead_39 n (mg μ ρ) l1 = (M_keepAhead_39 n ρ l1).map (mg μ) := by
  intro n
  induction n with
  | zero => intro ρ l1; rfl
  | succ n ih =>
    intro ρ l1
    rw [M_keepAhead_39, M_keepAhead_39]
    simp only [mg_259, mg_260, mg_261, mg_262, mg_263, mg_264, mg_265, mg_266, mg_267, mg_268, mg_269, mg_270, mg_271, mg_272, mg_273, mg_274, mg_275, mg_276, mg_277, mg_278, mg_279, mg_280, fa_260, fa_261, fa_262, fa_263, fa_264, fa_265, fa_266, fa_267, fa_268, fa_269, fa_270, fa_271, fa_272, fa_273, fa_274, fa_275, fa_276, fa_277, fa_278, fa_279, fa_280, fs_260, fs_261, fs_262, fs_263, fs_264, fs_265, fs_266, fs_267, fs_268, fs_269, fs_270, fs_271, fs_272, fs_273, fs_274, fs_275, fs_276, fs_277, fs_278, fs_279, fs_280, fw_259, fz_259, bmap, mbind, mite, Option.map_some, Option.map_none, Option.bind_some, mgP, ih]
theorem fr_M_keepAhead_39 {μ ρ : Mem}    {n : Nat} {l1 : Int} : M_keepAhead_39 n (mg μ ρ) l1 = (M_keepAhead_39 n ρ l1).map (mg μ) := fr_M_keepAhead_39_x  _ _ _
theorem fr_M_keepAhead {μ ρ : Mem}    : M_keepAhead (mg μ ρ) = (M_keepAhead ρ).map (mg μ) := by
  unfold M_keepAhead
  simp only [mg_259, mg_260, mg_261, mg_262, mg_263, mg_264, mg_265, mg_266, mg_267, mg_268, mg_269, mg_270, mg_271, mg_272, mg_273, mg_274, mg_275, mg_276, mg_277, mg_278, mg_279, mg_280, fa_260, fa_261, fa_262, fa_263, fa_264, fa_265, fa_266, fa_267, fa_268, fa_269, fa_270, fa_271, fa_272, fa_273, fa_274, fa_275, fa_276, fa_277, fa_278, fa_279, fa_280, fs_260, fs_261, fs_262, fs_263, fs_264, fs_265, fs_266, fs_267, fs_268, fs_269, fs_270, fs_271, fs_272, fs_273, fs_274, fs_275, fs_276, fs_277, fs_278, fs_279, fs_280, fw_259, fz_259, bmap, mbind, mite, Option.map_some, Option.map_none, Option.bind_some, mgP, fr_M_keepAhead_39]
theorem fr_M_settle_2_x {μ : Mem}    : ∀ (n : Nat) (ρ : Mem) (l1 : Int), M_settle_2 n (mg μ ρ) l1 = (M_settle_2 n ρ l1).map (mg μ) := by
  intro n
  induction n with
  | zero => intro ρ l1; rfl
  | succ n ih =>
    intro ρ l1
    rw [M_settle_2, M_settle_2]
    simp only [mg_259, mg_260, mg_261, mg_262, mg_263, mg_264, mg_265, mg_266, mg_267, mg_268, mg_269, mg_270, mg_271, mg_272, mg_273, mg_274, mg_275, mg_276, mg_277, mg_278, mg_279, mg_280, fa_260, fa_261, fa_262, fa_263, fa_264, fa_265, fa_266, fa_267, fa_268, fa_269, fa_270, fa_271, fa_272, fa_273, fa_274, fa_275, fa_276, fa_277, fa_278, fa_279, fa_280, fs_260, fs_261, fs_262, fs_263, fs_264, fs_265, fs_266, fs_267, fs_268, fs_269, fs_270, fs_271, fs_272, fs_273, fs_274, fs_275, fs_276, fs_277, fs_278, fs_279, fs_280, fw_259, fz_259, bmap, mbind, mite, Option.map_some, Option.map_none, Option.bind_some, mgP, ih, fr_M_trackedLevel]
theorem fr_M_settle_2 {μ ρ : Mem}    {n : Nat} {l1 : Int} : M_settle_2 n (mg μ ρ) l1 = (M_settle_2 n ρ l1).map (mg μ) := fr_M_settle_2_x  _ _ _
theorem fr_M_settle {μ ρ : Mem}    : M_settle (mg μ ρ) = (M_settle ρ).map (mg μ) := by
  unfold M_settle
  simp only [mg_259, mg_260, mg_261, mg_262, mg_263, mg_264, mg_265, mg_266, mg_267, mg_268, mg_269, mg_270, mg_271, mg_272, mg_273, mg_274, mg_275, mg_276, mg_277, mg_278, mg_279, mg_280, fa_260, fa_261, fa_262, fa_263, fa_264, fa_265, fa_266, fa_267, fa_268, fa_269, fa_270, fa_271, fa_272, fa_273, fa_274, fa_275, fa_276, fa_277, fa_278, fa_279, fa_280, fs_260, fs_261, fs_262, fs_263, fs_264, fs_265, fs_266, fs_267, fs_268, fs_269, fs_270, fs_271, fs_272, fs_273, fs_274, fs_275, fs_276, fs_277, fs_278, fs_279, fs_280, fw_259, fz_259, bmap, mbind, mite, Option.map_some, Option.map_none, Option.bind_some, mgP, fr_M_settle_2]
theorem fr_M_enter_124 {μ ρ : Mem} {K46 J46 : Mem → Int → Int → Option (Int × Mem)} {l1 : Int} {l2 : Int} (hK46 : ∀ (ρ : Mem) (l1 : Int) (l2 : Int), K46 (mg μ ρ) l1 l2 = (J46 ρ l1 l2).map (mgP μ)) : M_enter_124 K46 (mg μ ρ) l1 l2 = (M_enter_124 J46 ρ l1 l2).map (mgP μ) := by
  unfold M_enter_124
  simp only [mg_259, mg_260, mg_261, mg_262, mg_263, mg_264, mg_265, mg_266, mg_267, mg_268, mg_269, mg_270, mg_271, mg_272, mg_273, mg_274, mg_275, mg_276, mg_277, mg_278, mg_279, mg_280, fa_260, fa_261, fa_262, fa_263, fa_264, fa_265, fa_266, fa_267, fa_268, fa_269, fa_270, fa_271, fa_272, fa_273, fa_274, fa_275, fa_276, fa_277, fa_278, fa_279, fa_280, fs_260, fs_261, fs_262, fs_263, fs_264, fs_265, fs_266, fs_267, fs_268, fs_269, fs_270, fs_271, fs_272, fs_273, fs_274, fs_275, fs_276, fs_277, fs_278, fs_279, fs_280, fw_259, fz_259, bmap, mbind, mite, Option.map_some, Option.map_none, Option.bind_some, mgP, hK46]
theorem fr_M_enter_115 {μ ρ : Mem} {K46 J46 : Mem → Int → Int → Option (Int × Mem)} {l1 : Int} {s0 : Int} (hK46 : ∀ (ρ : Mem) (l1 : Int) (l2 : Int), K46 (mg μ ρ) l1 l2 = (J46 ρ l1 l2).map (mgP μ)) : M_enter_115 K46 (mg μ ρ) l1 s0 = (M_enter_115 J46 ρ l1 s0).map (mgP μ) := by
  unfold M_enter_115
  simp only [mg_259, mg_260, mg_261, mg_262, mg_263, mg_264, mg_265, mg_266, mg_267, mg_268, mg_269, mg_270, mg_271, mg_272, mg_273, mg_274, mg_275, mg_276, mg_277, mg_278, mg_279, mg_280, fa_260, fa_261, fa_262, fa_263, fa_264, fa_265, fa_266, fa_267, fa_268, fa_269, fa_270, fa_271, fa_272, fa_273, fa_274, fa_275, fa_276, fa_277, fa_278, fa_279, fa_280, fs_260, fs_261, fs_262, fs_263, fs_264, fs_265, fs_266, fs_267, fs_268, fs_269, fs_270, fs_271, fs_272, fs_273, fs_274, fs_275, fs_276, fs_277, fs_278, fs_279, fs_280, fw_259, fz_259, bmap, mbind, mite, Option.map_some, Option.map_none, Option.bind_some, mgP, hK46, fr_M_act, fr_M_enter_124 hK46]
theorem fr_M_enter_103 {μ ρ : Mem} {K46 J46 : Mem → Int → Int → Option (Int × Mem)} {l1 : Int} (hK46 : ∀ (ρ : Mem) (l1 : Int) (l2 : Int), K46 (mg μ ρ) l1 l2 = (J46 ρ l1 l2).map (mgP μ)) : M_enter_103 K46 (mg μ ρ) l1 = (M_enter_103 J46 ρ l1).map (mgP μ) := by
  unfold M_enter_103
  simp only [mg_259, mg_260, mg_261, mg_262, mg_263, mg_264, mg_265, mg_266, mg_267, mg_268, mg_269, mg_270, mg_271, mg_272, mg_273, mg_274, mg_275, mg_276, mg_277, mg_278, mg_279, mg_280, fa_260, fa_261, fa_262, fa_263, fa_264, fa_265, fa_266, fa_267, fa_268, fa_269, fa_270, fa_271, fa_272, fa_273, fa_274, fa_275, fa_276, fa_277, fa_278, fa_279, fa_280, fs_260, fs_261, fs_262, fs_263, fs_264, fs_265, fs_266, fs_267, fs_268, fs_269, fs_270, fs_271, fs_272, fs_273, fs_274, fs_275, fs_276, fs_277, fs_278, fs_279, fs_280, fw_259, fz_259, bmap, mbind, mite, Option.map_some, Option.map_none, Option.bind_some, mgP, hK46, fr_M_enter_115 hK46]
theorem fr_M_enter_83 {μ ρ : Mem} {K46 J46 : Mem → Int → Int → Option (Int × Mem)} {l1 : Int} {s0 : Int} (hK46 : ∀ (ρ : Mem) (l1 : Int) (l2 : Int), K46 (mg μ ρ) l1 l2 = (J46 ρ l1 l2).map (mgP μ)) : M_enter_83 K46 (mg μ ρ) l1 s0 = (M_enter_83 J46 ρ l1 s0).map (mgP μ) := by
  unfold M_enter_83
  simp only [mg_259, mg_260, mg_261, mg_262, mg_263, mg_264, mg_265, mg_266, mg_267, mg_268, mg_269, mg_270, mg_271, mg_272, mg_273, mg_274, mg_275, mg_276, mg_277, mg_278, mg_279, mg_280, fa_260, fa_261, fa_262, fa_263, fa_264, fa_265, fa_266, fa_267, fa_268, fa_269, fa_270, fa_271, fa_272, fa_273, fa_274, fa_275, fa_276, fa_277, fa_278, fa_279, fa_280, fs_260, fs_261, fs_262, fs_263, fs_264, fs_265, fs_266, fs_267, fs_268, fs_269, fs_270, fs_271, fs_272, fs_273, fs_274, fs_275, fs_276, fs_277, fs_278, fs_279, fs_280, fw_259, fz_259, bmap, mbind, mite, Option.map_some, Option.map_none, Option.bind_some, mgP, hK46, fr_M_check, fr_M_enter_103 hK46, fr_M_statement]
theorem fr_M_enter_152 {μ ρ : Mem}  {l1 : Int}  : M_enter_152 (mg μ ρ) l1 = (M_enter_152 ρ l1).map (mgP μ) := by
  unfold M_enter_152
  simp only [mg_259, mg_260, mg_261, mg_262, mg_263, mg_264, mg_265, mg_266, mg_267, mg_268, mg_269, mg_270, mg_271, mg_272, mg_273, mg_274, mg_275, mg_276, mg_277, mg_278, mg_279, mg_280, fa_260, fa_261, fa_262, fa_263, fa_264, fa_265, fa_266, fa_267, fa_268, fa_269, fa_270, fa_271, fa_272, fa_273, fa_274, fa_275, fa_276, fa_277, fa_278, fa_279, fa_280, fs_260, fs_261, fs_262, fs_263, fs_264, fs_265, fs_266, fs_267, fs_268, fs_269, fs_270, fs_271, fs_272, fs_273, fs_274, fs_275, fs_276, fs_277, fs_278, fs_279, fs_280, fw_259, fz_259, bmap, mbind, mite, Option.map_some, Option.map_none, Option.bind_some, mgP, fr_M_settle]
theorem fr_M_enter_46_x {μ : Mem}    : ∀ (n : Nat) (ρ : Mem) (l1 : Int) (l2 : Int), M_enter_46 n (mg μ ρ) l1 l2 = (M_enter_46 n ρ l1 l2).map (mgP μ) := by
  intro n
  induction n with
  | zero => intro ρ l1 l2; rfl
  | succ n ih =>
    intro ρ l1 l2
    rw [M_enter_46, M_enter_46]
    simp only [mg_259, mg_260, mg_261, mg_262, mg_263, mg_264, mg_265, mg_266, mg_267, mg_268, mg_269, mg_270, mg_271, mg_272, mg_273, mg_274, mg_275, mg_276, mg_277, mg_278, mg_279, mg_280, fa_260, fa_261, fa_262, fa_263, fa_264, fa_265, fa_266, fa_267, fa_268, fa_269, fa_270, fa_271, fa_272, fa_273, fa_274, fa_275, fa_276, fa_277, fa_278, fa_279, fa_280, fs_260, fs_261, fs_262, fs_263, fs_264, fs_265, fs_266, fs_267, fs_268, fs_269, fs_270, fs_271, fs_272, fs_273, fs_274, fs_275, fs_276, fs_277, fs_278, fs_279, fs_280, fw_259, fz_259, bmap, mbind, mite, Option.map_some, Option.map_none, Option.bind_some, mgP, ih, fr_M_enter_152, fr_M_enter_83 ih, fr_M_keepAhead, fr_M_read]
theorem fr_M_enter_46 {μ ρ : Mem}    {n : Nat} {l1 : Int} {l2 : Int} : M_enter_46 n (mg μ ρ) l1 l2 = (M_enter_46 n ρ l1 l2).map (mgP μ) := fr_M_enter_46_x  _ _ _ _
theorem fr_M_enter_2_x {μ : Mem}    : ∀ (n : Nat) (ρ : Mem) (l1 : Int), M_enter_2 n (mg μ ρ) l1 = (M_enter_2 n ρ l1).map (mgP μ) := by
  intro n
  induction n with
  | zero => intro ρ l1; rfl
  | succ n ih =>
    intro ρ l1
    rw [M_enter_2, M_enter_2]
    simp only [mg_259, mg_260, mg_261, mg_262, mg_263, mg_264, mg_265, mg_266, mg_267, mg_268, mg_269, mg_270, mg_271, mg_272, mg_273, mg_274, mg_275, mg_276, mg_277, mg_278, mg_279, mg_280, fa_260, fa_261, fa_262, fa_263, fa_264, fa_265, fa_266, fa_267, fa_268, fa_269, fa_270, fa_271, fa_272, fa_273, fa_274, fa_275, fa_276, fa_277, fa_278, fa_279, fa_280, fs_260, fs_261, fs_262, fs_263, fs_264, fs_265, fs_266, fs_267, fs_268, fs_269, fs_270, fs_271, fs_272, fs_273, fs_274, fs_275, fs_276, fs_277, fs_278, fs_279, fs_280, fw_259, fz_259, bmap, mbind, mite, Option.map_some, Option.map_none, Option.bind_some, mgP, ih, fr_M_enter_46]
theorem fr_M_enter_2 {μ ρ : Mem}    {n : Nat} {l1 : Int} : M_enter_2 n (mg μ ρ) l1 = (M_enter_2 n ρ l1).map (mgP μ) := fr_M_enter_2_x  _ _ _
theorem fr_M_enter {μ ρ : Mem}    : M_enter (mg μ ρ) = (M_enter ρ).map (mgP μ) := by
  unfold M_enter
  simp only [mg_259, mg_260, mg_261, mg_262, mg_263, mg_264, mg_265, mg_266, mg_267, mg_268, mg_269, mg_270, mg_271, mg_272, mg_273, mg_274, mg_275, mg_276, mg_277, mg_278, mg_279, mg_280, fa_260, fa_261, fa_262, fa_263, fa_264, fa_265, fa_266, fa_267, fa_268, fa_269, fa_270, fa_271, fa_272, fa_273, fa_274, fa_275, fa_276, fa_277, fa_278, fa_279, fa_280, fs_260, fs_261, fs_262, fs_263, fs_264, fs_265, fs_266, fs_267, fs_268, fs_269, fs_270, fs_271, fs_272, fs_273, fs_274, fs_275, fs_276, fs_277, fs_278, fs_279, fs_280, fw_259, fz_259, bmap, mbind, mite, Option.map_some, Option.map_none, Option.bind_some, mgP, fr_M_enter_2]
theorem fr_M_undo_11_x {μ : Mem}    : ∀ (n : Nat) (ρ : Mem) (l1 : Int), M_undo_11 n (mg μ ρ) l1 = (M_undo_11 n ρ l1).map (mgP μ) := by
  intro n
  induction n with
  | zero => intro ρ l1; rfl
  | succ n ih =>
    intro ρ l1
    rw [M_undo_11, M_undo_11]
    simp only [mg_259, mg_260, mg_261, mg_262, mg_263, mg_264, mg_265, mg_266, mg_267, mg_268, mg_269, mg_270, mg_271, mg_272, mg_273, mg_274, mg_275, mg_276, mg_277, mg_278, mg_279, mg_280, fa_260, fa_261, fa_262, fa_263, fa_264, fa_265, fa_266, fa_267, fa_268, fa_269, fa_270, fa_271, fa_272, fa_273, fa_274, fa_275, fa_276, fa_277, fa_278, fa_279, fa_280, fs_260, fs_261, fs_262, fs_263, fs_264, fs_265, fs_266, fs_267, fs_268, fs_269, fs_270, fs_271, fs_272, fs_273, fs_274, fs_275, fs_276, fs_277, fs_278, fs_279, fs_280, fw_259, fz_259, bmap, mbind, mite, Option.map_some, Option.map_none, Option.bind_some, mgP, ih, fr_M_settle]
theorem fr_M_undo_11 {μ ρ : Mem}    {n : Nat} {l1 : Int} : M_undo_11 n (mg μ ρ) l1 = (M_undo_11 n ρ l1).map (mgP μ) := fr_M_undo_11_x  _ _ _
theorem fr_M_undo {μ ρ : Mem}    : M_undo (mg μ ρ) = (M_undo ρ).map (mgP μ) := by
  unfold M_undo
  simp only [mg_259, mg_260, mg_261, mg_262, mg_263, mg_264, mg_265, mg_266, mg_267, mg_268, mg_269, mg_270, mg_271, mg_272, mg_273, mg_274, mg_275, mg_276, mg_277, mg_278, mg_279, mg_280, fa_260, fa_261, fa_262, fa_263, fa_264, fa_265, fa_266, fa_267, fa_268, fa_269, fa_270, fa_271, fa_272, fa_273, fa_274, fa_275, fa_276, fa_277, fa_278, fa_279, fa_280, fs_260, fs_261, fs_262, fs_263, fs_264, fs_265, fs_266, fs_267, fs_268, fs_269, fs_270, fs_271, fs_272, fs_273, fs_274, fs_275, fs_276, fs_277, fs_278, fs_279, fs_280, fw_259, fz_259, bmap, mbind, mite, Option.map_some, Option.map_none, Option.bind_some, mgP, fr_M_undo_11]
theorem fr_M_nextTo_47 {μ ρ : Mem}  {l1 : Int}  : M_nextTo_47 (mg μ ρ) l1 = M_nextTo_47 ρ l1 := by
  unfold M_nextTo_47
  simp only [mg_259, mg_260, mg_261, mg_262, mg_263, mg_264, mg_265, mg_266, mg_267, mg_268, mg_269, mg_270, mg_271, mg_272, mg_273, mg_274, mg_275, mg_276, mg_277, mg_278, mg_279, mg_280, fa_260, fa_261, fa_262, fa_263, fa_264, fa_265, fa_266, fa_267, fa_268, fa_269, fa_270, fa_271, fa_272, fa_273, fa_274, fa_275, fa_276, fa_277, fa_278, fa_279, fa_280, fs_260, fs_261, fs_262, fs_263, fs_264, fs_265, fs_266, fs_267, fs_268, fs_269, fs_270, fs_271, fs_272, fs_273, fs_274, fs_275, fs_276, fs_277, fs_278, fs_279, fs_280, fw_259, fz_259, bmap, mbind, mite, Option.map_some, Option.map_none, Option.bind_some, mgP, fr_M_numberAbove]
theorem fr_M_nextTo_30 {μ ρ : Mem}  {l1 : Int} {s0 : Int}  : M_nextTo_30 (mg μ ρ) l1 s0 = M_nextTo_30 ρ l1 s0 := by
  unfold M_nextTo_30
  simp only [mg_259, mg_260, mg_261, mg_262, mg_263, mg_264, mg_265, mg_266, mg_267, mg_268, mg_269, mg_270, mg_271, mg_272, mg_273, mg_274, mg_275, mg_276, mg_277, mg_278, mg_279, mg_280, fa_260, fa_261, fa_262, fa_263, fa_264, fa_265, fa_266, fa_267, fa_268, fa_269, fa_270, fa_271, fa_272, fa_273, fa_274, fa_275, fa_276, fa_277, fa_278, fa_279, fa_280, fs_260, fs_261, fs_262, fs_263, fs_264, fs_265, fs_266, fs_267, fs_268, fs_269, fs_270, fs_271, fs_272, fs_273, fs_274, fs_275, fs_276, fs_277, fs_278, fs_279, fs_280, fw_259, fz_259, bmap, mbind, mite, Option.map_some, Option.map_none, Option.bind_some, mgP, fr_M_cueRow, fr_M_nextTo_47]
theorem fr_M_nextTo {μ ρ : Mem}  {a1 : Int}  : M_nextTo (mg μ ρ) a1 = M_nextTo ρ a1 := by
  unfold M_nextTo
  simp only [mg_259, mg_260, mg_261, mg_262, mg_263, mg_264, mg_265, mg_266, mg_267, mg_268, mg_269, mg_270, mg_271, mg_272, mg_273, mg_274, mg_275, mg_276, mg_277, mg_278, mg_279, mg_280, fa_260, fa_261, fa_262, fa_263, fa_264, fa_265, fa_266, fa_267, fa_268, fa_269, fa_270, fa_271, fa_272, fa_273, fa_274, fa_275, fa_276, fa_277, fa_278, fa_279, fa_280, fs_260, fs_261, fs_262, fs_263, fs_264, fs_265, fs_266, fs_267, fs_268, fs_269, fs_270, fs_271, fs_272, fs_273, fs_274, fs_275, fs_276, fs_277, fs_278, fs_279, fs_280, fw_259, fz_259, bmap, mbind, mite, Option.map_some, Option.map_none, Option.bind_some, mgP, fr_M_cueRow, fr_M_nextTo_30]
theorem fr_M_take_229 {μ ρ : Mem} {K32 J32 : Mem → Int → Int → Option (Mem)} {l1 : Int} {l2 : Int} {l3 : Int} {l4 : Int} {l5 : Int} {l9 : Int} {l10 : Int} {s1 : Int} {s2 : Int} {s3 : Int} (hK32 : ∀ (ρ : Mem) (l4 : Int) (l5 : Int), K32 (mg μ ρ) l4 l5 = (J32 ρ l4 l5).map (mg μ)) : M_take_229 K32 (mg μ ρ) l1 l2 l3 l4 l5 l9 l10 s1 s2 s3 = (M_take_229 J32 ρ l1 l2 l3 l4 l5 l9 l10 s1 s2 s3).map (mg μ) := by
  unfold M_take_229
  simp only [mg_259, mg_260, mg_261, mg_262, mg_263, mg_264, mg_265, mg_266, mg_267, mg_268, mg_269, mg_270, mg_271, mg_272, mg_273, mg_274, mg_275, mg_276, mg_277, mg_278, mg_279, mg_280, fa_260, fa_261, fa_262, fa_263, fa_264, fa_265, fa_266, fa_267, fa_268, fa_269, fa_270, fa_271, fa_272, fa_273, fa_274, fa_275, fa_276, fa_277, fa_278, fa_279, fa_280, fs_260, fs_261, fs_262, fs_263, fs_264, fs_265, fs_266, fs_267, fs_268, fs_269, fs_270, fs_271, fs_272, fs_273, fs_274, fs_275, fs_276, fs_277, fs_278, fs_279, fs_280, fw_259, fz_259, bmap, mbind, mite, Option.map_some, Option.map_none, Option.bind_some, mgP, hK32]
theorem fr_M_take_182 {μ ρ : Mem} {K32 J32 : Mem → Int → Int → Option (Mem)} {l1 : Int} {l2 : Int} {l3 : Int} {l4 : Int} {l5 : Int} {l6 : Int} {l8 : Int} {l9 : Int} {s0 : Int} (hK32 : ∀ (ρ : Mem) (l4 : Int) (l5 : Int), K32 (mg μ ρ) l4 l5 = (J32 ρ l4 l5).map (mg μ)) : M_take_182 K32 (mg μ ρ) l1 l2 l3 l4 l5 l6 l8 l9 s0 = (M_take_182 J32 ρ l1 l2 l3 l4 l5 l6 l8 l9 s0).map (mg μ) := by
  unfold M_take_182
  simp only [mg_259, mg_260, mg_261, mg_262, mg_263, mg_264, mg_265, mg_266, mg_267, mg_268, mg_269, mg_270, mg_271, mg_272, mg_273, mg_274, mg_275, mg_276, mg_277, mg_278, mg_279, mg_280, fa_260, fa_261, fa_262, fa_263, fa_264, fa_265, fa_266, fa_267, fa_268, fa_269, fa_270, fa_271, fa_272, fa_273, fa_274, fa_275, fa_276, fa_277, fa_278, fa_279, fa_280, fs_260, fs_261, fs_262, fs_263, fs_264, fs_265, fs_266, fs_267, fs_268, fs_269, fs_270, fs_271, fs_272, fs_273, fs_274, fs_275, fs_276, fs_277, fs_278, fs_279, fs_280, fw_259, fz_259, bmap, mbind, mite, Option.map_some, Option.map_none, Option.bind_some, mgP, hK32, fr_M_take_229 hK32]
theorem fr_M_take_138 {μ ρ : Mem} {K32 J32 : Mem → Int → Int → Option (Mem)} {l1 : Int} {l2 : Int} {l3 : Int} {l4 : Int} {l5 : Int} {l6 : Int} {l7 : Int} {l8 : Int} {s0 : Int} (hK32 : ∀ (ρ : Mem) (l4 : Int) (l5 : Int), K32 (mg μ ρ) l4 l5 = (J32 ρ l4 l5).map (mg μ)) : M_take_138 K32 (mg μ ρ) l1 l2 l3 l4 l5 l6 l7 l8 s0 = (M_take_138 J32 ρ l1 l2 l3 l4 l5 l6 l7 l8 s0).map (mg μ) := by
  unfold M_take_138
  simp only [mg_259, mg_260, mg_261, mg_262, mg_263, mg_264, mg_265, mg_266, mg_267, mg_268, mg_269, mg_270, mg_271, mg_272, mg_273, mg_274, mg_275, mg_276, mg_277, mg_278, mg_279, mg_280, fa_260, fa_261, fa_262, fa_263, fa_264, fa_265, fa_266, fa_267, fa_268, fa_269, fa_270, fa_271, fa_272, fa_273, fa_274, fa_275, fa_276, fa_277, fa_278, fa_279, fa_280, fs_260, fs_261, fs_262, fs_263, fs_264, fs_265, fs_266, fs_267, fs_268, fs_269, fs_270, fs_271, fs_272, fs_273, fs_274, fs_275, fs_276, fs_277, fs_278, fs_279, fs_280, fw_259, fz_259, bmap, mbind, mite, Option.map_some, Option.map_none, Option.bind_some, mgP, hK32, fr_M_take_182 hK32]
theorem fr_M_take_93 {μ ρ : Mem} {K32 J32 : Mem → Int → Int → Option (Mem)} {l1 : Int} {l2 : Int} {l3 : Int} {l5 : Int} {l6 : Int} {l7 : Int} {s0 : Int} (hK32 : ∀ (ρ : Mem) (l4 : Int) (l5 : Int), K32 (mg μ ρ) l4 l5 = (J32 ρ l4 l5).map (mg μ)) : M_take_93 K32 (mg μ ρ) l1 l2 l3 l5 l6 l7 s0 = (M_take_93 J32 ρ l1 l2 l3 l5 l6 l7 s0).map (mg μ) := by
  unfold M_take_93
  simp only [mg_259, mg_260, mg_261, mg_262, mg_263, mg_264, mg_265, mg_266, mg_267, mg_268, mg_269, mg_270, mg_271, mg_272, mg_273, mg_274, mg_275, mg_276, mg_277, mg_278, mg_279, mg_280, fa_260, fa_261, fa_262, fa_263, fa_264, fa_265, fa_266, fa_267, fa_268, fa_269, fa_270, fa_271, fa_272, fa_273, fa_274, fa_275, fa_276, fa_277, fa_278, fa_279, fa_280, fs_260, fs_261, fs_262, fs_263, fs_264, fs_265, fs_266, fs_267, fs_268, fs_269, fs_270, fs_271, fs_272, fs_273, fs_274, fs_275, fs_276, fs_277, fs_278, fs_279, fs_280, fw_259, fz_259, bmap, mbind, mite, Option.map_some, Option.map_none, Option.bind_some, mgP, hK32, fr_M_take_138 hK32, fr_M_trackedLevel]
theorem fr_M_take_61 {μ ρ : Mem} {K32 J32 : Mem → Int → Int → Option (Mem)} {l1 : Int} {l2 : Int} {l3 : Int} {l4 : Int} {l5 : Int} {l6 : Int} {s0 : Int} (hK32 : ∀ (ρ : Mem) (l4 : Int) (l5 : Int), K32 (mg μ ρ) l4 l5 = (J32 ρ l4 l5).map (mg μ)) : M_take_61 K32 (mg μ ρ) l1 l2 l3 l4 l5 l6 s0 = (M_take_61 J32 ρ l1 l2 l3 l4 l5 l6 s0).map (mg μ) := by
  unfold M_take_61
  simp only [mg_259, mg_260, mg_261, mg_262, mg_263, mg_264, mg_265, mg_266, mg_267, mg_268, mg_269, mg_270, mg_271, mg_272, mg_273, mg_274, mg_275, mg_276, mg_277, mg_278, mg_279, mg_280, fa_260, fa_261, fa_262, fa_263, fa_264, fa_265, fa_266, fa_267, fa_268, fa_269, fa_270, fa_271, fa_272, fa_273, fa_274, fa_275, fa_276, fa_277, fa_278, fa_279, fa_280, fs_260, fs_261, fs_262, fs_263, fs_264, fs_265, fs_266, fs_267, fs_268, fs_269, fs_270, fs_271, fs_272, fs_273, fs_274, fs_275, fs_276, fs_277, fs_278, fs_279, fs_280, fw_259, fz_259, bmap, mbind, mite, Option.map_some, Option.map_none, Option.bind_some, mgP, hK32, fr_M_take_93 hK32]
theorem fr_M_take_32_x {μ : Mem}  {l1 : Int} {l2 : Int} {l3 : Int}  : ∀ (n : Nat) (ρ : Mem) (l4 : Int) (l5 : Int), M_take_32 l1 l2 l3 n (mg μ ρ) l4 l5 = (M_take_32 l1 l2 l3 n ρ l4 l5).map (mg μ) := by
  intro n
  induction n with
  | zero => intro ρ l4 l5; rfl
  | succ n ih =>
    intro ρ l4 l5
    rw [M_take_32, M_take_32]
    simp only [mg_259, mg_260, mg_261, mg_262, mg_263, mg_264, mg_265, mg_266, mg_267, mg_268, mg_269, mg_270, mg_271, mg_272, mg_273, mg_274, mg_275, mg_276, mg_277, mg_278, mg_279, mg_280, fa_260, fa_261, fa_262, fa_263, fa_264, fa_265, fa_266, fa_267, fa_268, fa_269, fa_270, fa_271, fa_272, fa_273, fa_274, fa_275, fa_276, fa_277, fa_278, fa_279, fa_280, fs_260, fs_261, fs_262, fs_263, fs_264, fs_265, fs_266, fs_267, fs_268, fs_269, fs_270, fs_271, fs_272, fs_273, fs_274, fs_275, fs_276, fs_277, fs_278, fs_279, fs_280, fw_259, fz_259, bmap, mbind, mite, Option.map_some, Option.map_none, Option.bind_some, mgP, ih, fr_M_cueLevel, fr_M_take_61 ih]
theorem fr_M_take_32 {μ ρ : Mem}  {l1 : Int} {l2 : Int} {l3 : Int}  {n : Nat} {l4 : Int} {l5 : Int} : M_take_32 l1 l2 l3 n (mg μ ρ) l4 l5 = (M_take_32 l1 l2 l3 n ρ l4 l5).map (mg μ) := fr_M_take_32_x  _ _ _ _
theorem fr_M_take {μ ρ : Mem}  {a1 : Int} {a2 : Int}  : M_take (mg μ ρ) a1 a2 = (M_take ρ a1 a2).map (mg μ) := by
  unfold M_take
  simp only [mg_259, mg_260, mg_261, mg_262, mg_263, mg_264, mg_265, mg_266, mg_267, mg_268, mg_269, mg_270, mg_271, mg_272, mg_273, mg_274, mg_275, mg_276, mg_277, mg_278, mg_279, mg_280, fa_260, fa_261, fa_262, fa_263, fa_264, fa_265, fa_266, fa_267, fa_268, fa_269, fa_270, fa_271, fa_272, fa_273, fa_274, fa_275, fa_276, fa_277, fa_278, fa_279, fa_280, fs_260, fs_261, fs_262, fs_263, fs_264, fs_265, fs_266, fs_267, fs_268, fs_269, fs_270, fs_271, fs_272, fs_273, fs_274, fs_275, fs_276, fs_277, fs_278, fs_279, fs_280, fw_259, fz_259, bmap, mbind, mite, Option.map_some, Option.map_none, Option.bind_some, mgP, fr_M_cueRow, fr_M_take_32]
theorem fr_M_follow_99 {μ ρ : Mem} {K21 J21 : Mem → Int → Int → Int → Option (Mem)} {l2 : Int} {l3 : Int} (hK21 : ∀ (ρ : Mem) (l1 : Int) (l2 : Int) (l3 : Int), K21 (mg μ ρ) l1 l2 l3 = (J21 ρ l1 l2 l3).map (mg μ)) : M_follow_99 K21 (mg μ ρ) l2 l3 = (M_follow_99 J21 ρ l2 l3).map (mg μ) := by
  unfold M_follow_99
  simp only [mg_259, mg_260, mg_261, mg_262, mg_263, mg_264, mg_265, mg_266, mg_267, mg_268, mg_269, mg_270, mg_271, mg_272, mg_273, mg_274, mg_275, mg_276, mg_277, mg_278, mg_279, mg_280, fa_260, fa_261, fa_262, fa_263, fa_264, fa_265, fa_266, fa_267, fa_268, fa_269, fa_270, fa_271, fa_272, fa_273, fa_274, fa_275, fa_276, fa_277, fa_278, fa_279, fa_280, fs_260, fs_261, fs_262, fs_263, fs_264, fs_265, fs_266, fs_267, fs_268, fs_269, fs_270, fs_271, fs_272, fs_273, fs_274, fs_275, fs_276, fs_277, fs_278, fs_279, fs_280, fw_259, fz_259, bmap, mbind, mite, Option.map_some, Option.map_none, Option.bind_some, mgP, hK21, fr_M_cueRow]
theorem fr_M_follow_87 {μ ρ : Mem} {K21 J21 : Mem → Int → Int → Int → Option (Mem)} {l3 : Int} {l5 : Int} {s0 : Int} (hK21 : ∀ (ρ : Mem) (l1 : Int) (l2 : Int) (l3 : Int), K21 (mg μ ρ) l1 l2 l3 = (J21 ρ l1 l2 l3).map (mg μ)) : M_follow_87 K21 (mg μ ρ) l3 l5 s0 = (M_follow_87 J21 ρ l3 l5 s0).map (mg μ) := by
  unfold M_follow_87
  simp only [mg_259, mg_260, mg_261, mg_262, mg_263, mg_264, mg_265, mg_266, mg_267, mg_268, mg_269, mg_270, mg_271, mg_272, mg_273, mg_274, mg_275, mg_276, mg_277, mg_278, mg_279, mg_280, fa_260, fa_261, fa_262, fa_263, fa_264, fa_265, fa_266, fa_267, fa_268, fa_269, fa_270, fa_271, fa_272, fa_273, fa_274, fa_275, fa_276, fa_277, fa_278, fa_279, fa_280, fs_260, fs_261, fs_262, fs_263, fs_264, fs_265, fs_266, fs_267, fs_268, fs_269, fs_270, fs_271, fs_272, fs_273, fs_274, fs_275, fs_276, fs_277, fs_278, fs_279, fs_280, fw_259, fz_259, bmap, mbind, mite, Option.map_some, Option.map_none, Option.bind_some, mgP, hK21, fr_M_follow_99 hK21, fr_M_take]
theorem fr_M_follow_21_x {μ : Mem}    : ∀ (n : Nat) (ρ : Mem) (l1 : Int) (l2 : Int) (l3 : Int), M_follow_21 n (mg μ ρ) l1 l2 l3 = (M_follow_21 n ρ l1 l2 l3).map (mg μ) := by
  intro n
  induction n with
  | zero => intro ρ l1 l2 l3; rfl
  | succ n ih =>
    intro ρ l1 l2 l3
    rw [M_follow_21, M_follow_21]
    simp only [mg_259, mg_260, mg_261, mg_262, mg_263, mg_264, mg_265, mg_266, mg_267, mg_268, mg_269, mg_270, mg_271, mg_272, mg_273, mg_274, mg_275, mg_276, mg_277, mg_278, mg_279, mg_280, fa_260, fa_261, fa_262, fa_263, fa_264, fa_265, fa_266, fa_267, fa_268, fa_269, fa_270, fa_271, fa_272, fa_273, fa_274, fa_275, fa_276, fa_277, fa_278, fa_279, fa_280, fs_260, fs_261, fs_262, fs_263, fs_264, fs_265, fs_266, fs_267, fs_268, fs_269, fs_270, fs_271, fs_272, fs_273, fs_274, fs_275, fs_276, fs_277, fs_278, fs_279, fs_280, fw_259, fz_259, bmap, mbind, mite, Option.map_some, Option.map_none, Option.bind_some, mgP, ih, fr_M_follow_87 ih, fr_M_nextTo]
theorem fr_M_follow_21 {μ ρ : Mem}    {n : Nat} {l1 : Int} {l2 : Int} {l3 : Int} : M_follow_21 n (mg μ ρ) l1 l2 l3 = (M_follow_21 n ρ l1 l2 l3).map (mg μ) := fr_M_follow_21_x  _ _ _ _ _
theorem fr_M_follow {μ ρ : Mem}    : M_follow (mg μ ρ) = (M_follow ρ).map (mg μ) := by
  unfold M_follow
  simp only [mg_259, mg_260, mg_261, mg_262, mg_263, mg_264, mg_265, mg_266, mg_267, mg_268, mg_269, mg_270, mg_271, mg_272, mg_273, mg_274, mg_275, mg_276, mg_277, mg_278, mg_279, mg_280, fa_260, fa_261, fa_262, fa_263, fa_264, fa_265, fa_266, fa_267, fa_268, fa_269, fa_270, fa_271, fa_272, fa_273, fa_274, fa_275, fa_276, fa_277, fa_278, fa_279, fa_280, fs_260, fs_261, fs_262, fs_263, fs_264, fs_265, fs_266, fs_267, fs_268, fs_269, fs_270, fs_271, fs_272, fs_273, fs_274, fs_275, fs_276, fs_277, fs_278, fs_279, fs_280, fw_259, fz_259, bmap, mbind, mite, Option.map_some, Option.map_none, Option.bind_some, mgP, fr_M_cueRow, fr_M_follow_21]
theorem fr_M_taken {μ ρ : Mem}  {a1 : Int} {a2 : Int}  : M_taken (mg μ ρ) a1 a2 = (M_taken ρ a1 a2).map (mgP μ) := by
  unfold M_taken
  simp only [mg_259, mg_260, mg_261, mg_262, mg_263, mg_264, mg_265, mg_266, mg_267, mg_268, mg_269, mg_270, mg_271, mg_272, mg_273, mg_274, mg_275, mg_276, mg_277, mg_278, mg_279, mg_280, fa_260, fa_261, fa_262, fa_263, fa_264, fa_265, fa_266, fa_267, fa_268, fa_269, fa_270, fa_271, fa_272, fa_273, fa_274, fa_275, fa_276, fa_277, fa_278, fa_279, fa_280, fs_260, fs_261, fs_262, fs_263, fs_264, fs_265, fs_266, fs_267, fs_268, fs_269, fs_270, fs_271, fs_272, fs_273, fs_274, fs_275, fs_276, fs_277, fs_278, fs_279, fs_280, fw_259, fz_259, bmap, mbind, mite, Option.map_some, Option.map_none, Option.bind_some, mgP, fr_M_follow, fr_M_take]
theorem fr_M_go {μ ρ : Mem}    : M_go (mg μ ρ) = (M_go ρ).map (mgP μ) := by
  unfold M_go
  simp only [mg_259, mg_260, mg_261, mg_262, mg_263, mg_264, mg_265, mg_266, mg_267, mg_268, mg_269, mg_270, mg_271, mg_272, mg_273, mg_274, mg_275, mg_276, mg_277, mg_278, mg_279, mg_280, fa_260, fa_261, fa_262, fa_263, fa_264, fa_265, fa_266, fa_267, fa_268, fa_269, fa_270, fa_271, fa_272, fa_273, fa_274, fa_275, fa_276, fa_277, fa_278, fa_279, fa_280, fs_260, fs_261, fs_262, fs_263, fs_264, fs_265, fs_266, fs_267, fs_268, fs_269, fs_270, fs_271, fs_272, fs_273, fs_274, fs_275, fs_276, fs_277, fs_278, fs_279, fs_280, fw_259, fz_259, bmap, mbind, mite, Option.map_some, Option.map_none, Option.bind_some, mgP, fr_M_nextTo, fr_M_taken]
theorem fr_M_back {μ ρ : Mem}    : M_back (mg μ ρ) = (M_back ρ).map (mgP μ) := by
  unfold M_back
  simp only [mg_259, mg_260, mg_261, mg_262, mg_263, mg_264, mg_265, mg_266, mg_267, mg_268, mg_269, mg_270, mg_271, mg_272, mg_273, mg_274, mg_275, mg_276, mg_277, mg_278, mg_279, mg_280, fa_260, fa_261, fa_262, fa_263, fa_264, fa_265, fa_266, fa_267, fa_268, fa_269, fa_270, fa_271, fa_272, fa_273, fa_274, fa_275, fa_276, fa_277, fa_278, fa_279, fa_280, fs_260, fs_261, fs_262, fs_263, fs_264, fs_265, fs_266, fs_267, fs_268, fs_269, fs_270, fs_271, fs_272, fs_273, fs_274, fs_275, fs_276, fs_277, fs_278, fs_279, fs_280, fw_259, fz_259, bmap, mbind, mite, Option.map_some, Option.map_none, Option.bind_some, mgP, fr_M_numberUpTo, fr_M_taken]
theorem fr_M_jump {μ ρ : Mem}  {a1 : Int}  : M_jump (mg μ ρ) a1 = (M_jump ρ a1).map (mgP μ) := by
  unfold M_jump
  simp only [mg_259, mg_260, mg_261, mg_262, mg_263, mg_264, mg_265, mg_266, mg_267, mg_268, mg_269, mg_270, mg_271, mg_272, mg_273, mg_274, mg_275, mg_276, mg_277, mg_278, mg_279, mg_280, fa_260, fa_261, fa_262, fa_263, fa_264, fa_265, fa_266, fa_267, fa_268, fa_269, fa_270, fa_271, fa_272, fa_273, fa_274, fa_275, fa_276, fa_277, fa_278, fa_279, fa_280, fs_260, fs_261, fs_262, fs_263, fs_264, fs_265, fs_266, fs_267, fs_268, fs_269, fs_270, fs_271, fs_272, fs_273, fs_274, fs_275, fs_276, fs_277, fs_278, fs_279, fs_280, fw_259, fz_259, bmap, mbind, mite, Option.map_some, Option.map_none, Option.bind_some, mgP, fr_M_cueRow, fr_M_taken]
theorem fr_M_hold {μ ρ : Mem}  {a1 : Int}  : M_hold (mg μ ρ) a1 = (M_hold ρ a1).map (mgP μ) := by
  unfold M_hold
  simp only [mg_259, mg_260, mg_261, mg_262, mg_263, mg_264, mg_265, mg_266, mg_267, mg_268, mg_269, mg_270, mg_271, mg_272, mg_273, mg_274, mg_275, mg_276, mg_277, mg_278, mg_279, mg_280, fa_260, fa_261, fa_262, fa_263, fa_264, fa_265, fa_266, fa_267, fa_268, fa_269, fa_270, fa_271, fa_272, fa_273, fa_274, fa_275, fa_276, fa_277, fa_278, fa_279, fa_280, fs_260, fs_261, fs_262, fs_263, fs_264, fs_265, fs_266, fs_267, fs_268, fs_269, fs_270, fs_271, fs_272, fs_273, fs_274, fs_275, fs_276, fs_277, fs_278, fs_279, fs_280, fw_259, fz_259, bmap, mbind, mite, Option.map_some, Option.map_none, Option.bind_some, mgP]
theorem fr_M_added_137 {μ ρ : Mem}  {l1 : Int} {l7 : Int} {s0 : Int}  : M_added_137 (mg μ ρ) l1 l7 s0 = M_added_137 ρ l1 l7 s0 := by
  unfold M_added_137
  simp only [mg_259, mg_260, mg_261, mg_262, mg_263, mg_264, mg_265, mg_266, mg_267, mg_268, mg_269, mg_270, mg_271, mg_272, mg_273, mg_274, mg_275, mg_276, mg_277, mg_278, mg_279, mg_280, fa_260, fa_261, fa_262, fa_263, fa_264, fa_265, fa_266, fa_267, fa_268, fa_269, fa_270, fa_271, fa_272, fa_273, fa_274, fa_275, fa_276, fa_277, fa_278, fa_279, fa_280, fs_260, fs_261, fs_262, fs_263, fs_264, fs_265, fs_266, fs_267, fs_268, fs_269, fs_270, fs_271, fs_272, fs_273, fs_274, fs_275, fs_276, fs_277, fs_278, fs_279, fs_280, fw_259, fz_259, bmap, mbind, mite, Option.map_some, Option.map_none, Option.bind_some, mgP]
theorem fr_M_added_15_x {μ ρ : Mem}  {l1 : Int} {l2 : Int} {l3 : Int}  : ∀ (n : Nat) (l4 : Int) (l5 : Int), M_added_15 (mg μ ρ) l1 l2 l3 n l4 l5 = M_added_15 ρ l1 l2 l3 n l4 l5 := by
  intro n
  induction n with
  | zero => intro l4 l5; rfl
  | succ n ih =>
    intro l4 l5
    rw [M_added_15, M_added_15]
    simp only [mg_259, mg_260, mg_261, mg_262, mg_263, mg_264, mg_265, mg_266, mg_267, mg_268, mg_269, mg_270, mg_271, mg_272, mg_273, mg_274, mg_275, mg_276, mg_277, mg_278, mg_279, mg_280, fa_260, fa_261, fa_262, fa_263, fa_264, fa_265, fa_266, fa_267, fa_268, fa_269, fa_270, fa_271, fa_272, fa_273, fa_274, fa_275, fa_276, fa_277, fa_278, fa_279, fa_280, fs_260, fs_261, fs_262, fs_263, fs_264, fs_265, fs_266, fs_267, fs_268, fs_269, fs_270, fs_271, fs_272, fs_273, fs_274, fs_275, fs_276, fs_277, fs_278, fs_279, fs_280, fw_259, fz_259, bmap, mbind, mite, Option.map_some, Option.map_none, Option.bind_some, mgP, ih, fr_M_added_137]
theorem fr_M_added_15 {μ ρ : Mem}  {l1 : Int} {l2 : Int} {l3 : Int}  {n : Nat} {l4 : Int} {l5 : Int} : M_added_15 (mg μ ρ) l1 l2 l3 n l4 l5 = M_added_15 ρ l1 l2 l3 n l4 l5 := fr_M_added_15_x  _ _ _
theorem fr_M_added {μ ρ : Mem}  {a1 : Int} {a2 : Int}  : M_added (mg μ ρ) a1 a2 = M_added ρ a1 a2 := by
  unfold M_added
  simp only [mg_259, mg_260, mg_261, mg_262, mg_263, mg_264, mg_265, mg_266, mg_267, mg_268, mg_269, mg_270, mg_271, mg_272, mg_273, mg_274, mg_275, mg_276, mg_277, mg_278, mg_279, mg_280, fa_260, fa_261, fa_262, fa_263, fa_264, fa_265, fa_266, fa_267, fa_268, fa_269, fa_270, fa_271, fa_272, fa_273, fa_274, fa_275, fa_276, fa_277, fa_278, fa_279, fa_280, fs_260, fs_261, fs_262, fs_263, fs_264, fs_265, fs_266, fs_267, fs_268, fs_269, fs_270, fs_271, fs_272, fs_273, fs_274, fs_275, fs_276, fs_277, fs_278, fs_279, fs_280, fw_259, fz_259, bmap, mbind, mite, Option.map_some, Option.map_none, Option.bind_some, mgP, fr_M_added_15]
theorem fr_M_levelAt_101 {μ ρ : Mem} {K44 J44 : Int → Int → Option (Int)} {l1 : Int} {l2 : Int} {l4 : Int} {l5 : Int} {l6 : Int} {l7 : Int} {s0 : Int} (hK44 : ∀ (l5 : Int) (l6 : Int), K44 l5 l6 = J44 l5 l6) : M_levelAt_101 K44 (mg μ ρ) l1 l2 l4 l5 l6 l7 s0 = M_levelAt_101 J44 ρ l1 l2 l4 l5 l6 l7 s0 := by
  unfold M_levelAt_101
  simp only [mg_259, mg_260, mg_261, mg_262, mg_263, mg_264, mg_265, mg_266, mg_267, mg_268, mg_269, mg_270, mg_271, mg_272, mg_273, mg_274, mg_275, mg_276, mg_277, mg_278, mg_279, mg_280, fa_260, fa_261, fa_262, fa_263, fa_264, fa_265, fa_266, fa_267, fa_268, fa_269, fa_270, fa_271, fa_272, fa_273, fa_274, fa_275, fa_276, fa_277, fa_278, fa_279, fa_280, fs_260, fs_261, fs_262, fs_263, fs_264, fs_265, fs_266, fs_267, fs_268, fs_269, fs_270, fs_271, fs_272, fs_273, fs_274, fs_275, fs_276, fs_277, fs_278, fs_279, fs_280, fw_259, fz_259, bmap, mbind, mite, Option.map_some, Option.map_none, Option.bind_some, mgP, hK44]
theorem fr_M_levelAt_152_x {μ ρ : Mem}  {l1 : Int} {l2 : Int}  : ∀ (n : Nat) (l5 : Int) (l6 : Int), M_levelAt_152 (mg μ ρ) l1 l2 n l5 l6 = M_levelAt_152 ρ l1 l2 n l5 l6 := by
  intro n
  induction n with
  | zero => intro l5 l6; rfl
  | succ n ih =>
    intro l5 l6
    rw [M_levelAt_152, M_levelAt_152]
    simp only [mg_259, mg_260, mg_261, mg_262, mg_263, mg_264, mg_265, mg_266, mg_267, mg_268, mg_269, mg_270, mg_271, mg_272, mg_273, mg_274, mg_275, mg_276, mg_277, mg_278, mg_279, mg_280, fa_260, fa_261, fa_262, fa_263, fa_264, fa_265, fa_266, fa_267, fa_268, fa_269, fa_270, fa_271, fa_272, fa_273, fa_274, fa_275, fa_276, fa_277, fa_278, fa_279, fa_280, fs_260, fs_261, fs_262, fs_263, fs_264, fs_265, fs_266, fs_267, fs_268, fs_269, fs_270, fs_271, fs_272, fs_273, fs_274, fs_275, fs_276, fs_277, fs_278, fs_279, fs_280, fw_259, fz_259, bmap, mbind, mite, Option.map_some, Option.map_none, Option.bind_some, mgP, ih, fr_M_added]
theorem fr_M_levelAt_152 {μ ρ : Mem}  {l1 : Int} {l2 : Int}  {n : Nat} {l5 : Int} {l6 : Int} : M_levelAt_152 (mg μ ρ) l1 l2 n l5 l6 = M_levelAt_152 ρ l1 l2 n l5 l6 := fr_M_levelAt_152_x  _ _ _
theorem fr_M_levelAt_44_x {μ ρ : Mem}  {l1 : Int} {l2 : Int} {l4 : Int}  : ∀ (n : Nat) (l5 : Int) (l6 : Int), M_levelAt_44 (mg μ ρ) l1 l2 l4 n l5 l6 = M_levelAt_44 ρ l1 l2 l4 n l5 l6 := by
  intro n
  induction n with
  | zero => intro l5 l6; rfl
  | succ n ih =>
    intro l5 l6
    rw [M_levelAt_44, M_levelAt_44]
    simp only [mg_259, mg_260, mg_261, mg_262, mg_263, mg_264, mg_265, mg_266, mg_267, mg_268, mg_269, mg_270, mg_271, mg_272, mg_273, mg_274, mg_275, mg_276, mg_277, mg_278, mg_279, mg_280, fa_260, fa_261, fa_262, fa_263, fa_264, fa_265, fa_266, fa_267, fa_268, fa_269, fa_270, fa_271, fa_272, fa_273, fa_274, fa_275, fa_276, fa_277, fa_278, fa_279, fa_280, fs_260, fs_261, fs_262, fs_263, fs_264, fs_265, fs_266, fs_267, fs_268, fs_269, fs_270, fs_271, fs_272, fs_273, fs_274, fs_275, fs_276, fs_277, fs_278, fs_279, fs_280, fw_259, fz_259, bmap, mbind, mite, Option.map_some, Option.map_none, Option.bind_some, mgP, ih, fr_M_levelAt_101 ih, fr_M_levelAt_152]
theorem fr_M_levelAt_44 {μ ρ : Mem}  {l1 : Int} {l2 : Int} {l4 : Int}  {n : Nat} {l5 : Int} {l6 : Int} : M_levelAt_44 (mg μ ρ) l1 l2 l4 n l5 l6 = M_levelAt_44 ρ l1 l2 l4 n l5 l6 := fr_M_levelAt_44_x  _ _ _
theorem fr_M_levelAt {μ ρ : Mem}  {a1 : Int} {a2 : Int}  : M_levelAt (mg μ ρ) a1 a2 = M_levelAt ρ a1 a2 := by
  unfold M_levelAt
  simp only [mg_259, mg_260, mg_261, mg_262, mg_263, mg_264, mg_265, mg_266, mg_267, mg_268, mg_269, mg_270, mg_271, mg_272, mg_273, mg_274, mg_275, mg_276, mg_277, mg_278, mg_279, mg_280, fa_260, fa_261, fa_262, fa_263, fa_264, fa_265, fa_266, fa_267, fa_268, fa_269, fa_270, fa_271, fa_272, fa_273, fa_274, fa_275, fa_276, fa_277, fa_278, fa_279, fa_280, fs_260, fs_261, fs_262, fs_263, fs_264, fs_265, fs_266, fs_267, fs_268, fs_269, fs_270, fs_271, fs_272, fs_273, fs_274, fs_275, fs_276, fs_277, fs_278, fs_279, fs_280, fw_259, fz_259, bmap, mbind, mite, Option.map_some, Option.map_none, Option.bind_some, mgP, fr_M_cueLevel, fr_M_levelAt_44, fr_M_levelOf]
theorem fr_M_roll {μ ρ : Mem}  {a1 : Int}  : M_roll (mg μ ρ) a1 = (M_roll ρ a1).map (mg μ) := by
  unfold M_roll
  simp only [mg_259, mg_260, mg_261, mg_262, mg_263, mg_264, mg_265, mg_266, mg_267, mg_268, mg_269, mg_270, mg_271, mg_272, mg_273, mg_274, mg_275, mg_276, mg_277, mg_278, mg_279, mg_280, fa_260, fa_261, fa_262, fa_263, fa_264, fa_265, fa_266, fa_267, fa_268, fa_269, fa_270, fa_271, fa_272, fa_273, fa_274, fa_275, fa_276, fa_277, fa_278, fa_279, fa_280, fs_260, fs_261, fs_262, fs_263, fs_264, fs_265, fs_266, fs_267, fs_268, fs_269, fs_270, fs_271, fs_272, fs_273, fs_274, fs_275, fs_276, fs_277, fs_278, fs_279, fs_280, fw_259, fz_259, bmap, mbind, mite, Option.map_some, Option.map_none, Option.bind_some, mgP, fr_M_levelAt]
theorem fr_M_advance_113_x {μ : Mem} {K16 J16 : Mem → Int → Option (Int × Mem)} {l1 : Int} {l2 : Int} (hK16 : ∀ (ρ : Mem) (l2 : Int), K16 (mg μ ρ) l2 = (J16 ρ l2).map (mgP μ)) : ∀ (n : Nat) (ρ : Mem) (l3 : Int), M_advance_113 K16 l1 l2 n (mg μ ρ) l3 = (M_advance_113 J16 l1 l2 n ρ l3).map (mgP μ) := by
  intro n
  induction n with
  | zero => intro ρ l3; rfl
  | succ n ih =>
    intro ρ l3
    rw [M_advance_113, M_advance_113]
    simp only [mg_259, mg_260, mg_261, mg_262, mg_263, mg_264, mg_265, mg_266, mg_267, mg_268, mg_269, mg_270, mg_271, mg_272, mg_273, mg_274, mg_275, mg_276, mg_277, mg_278, mg_279, mg_280, fa_260, fa_261, fa_262, fa_263, fa_264, fa_265, fa_266, fa_267, fa_268, fa_269, fa_270, fa_271, fa_272, fa_273, fa_274, fa_275, fa_276, fa_277, fa_278, fa_279, fa_280, fs_260, fs_261, fs_262, fs_263, fs_264, fs_265, fs_266, fs_267, fs_268, fs_269, fs_270, fs_271, fs_272, fs_273, fs_274, fs_275, fs_276, fs_277, fs_278, fs_279, fs_280, fw_259, fz_259, bmap, mbind, mite, Option.map_some, Option.map_none, Option.bind_some, mgP, ih, hK16, fr_M_roll]
theorem fr_M_advance_113 {μ ρ : Mem} {K16 J16 : Mem → Int → Option (Int × Mem)} {l1 : Int} {l2 : Int} (hK16 : ∀ (ρ : Mem) (l2 : Int), K16 (mg μ ρ) l2 = (J16 ρ l2).map (mgP μ)) {n : Nat} {l3 : Int} : M_advance_113 K16 l1 l2 n (mg μ ρ) l3 = (M_advance_113 J16 l1 l2 n ρ l3).map (mgP μ) := fr_M_advance_113_x hK16 _ _ _
theorem fr_M_advance_35_x {μ : Mem} {K16 J16 : Mem → Int → Option (Int × Mem)} {l1 : Int} {l2 : Int} (hK16 : ∀ (ρ : Mem) (l2 : Int), K16 (mg μ ρ) l2 = (J16 ρ l2).map (mgP μ)) : ∀ (n : Nat) (ρ : Mem) (l3 : Int), M_advance_35 K16 l1 l2 n (mg μ ρ) l3 = (M_advance_35 J16 l1 l2 n ρ l3).map (mgP μ) := by
  intro n
  induction n with
  | zero => intro ρ l3; rfl
  | succ n ih =>
    intro ρ l3
    rw [M_advance_35, M_advance_35]
    simp only [mg_259, mg_260, mg_261, mg_262, mg_263, mg_264, mg_265, mg_266, mg_267, mg_268, mg_269, mg_270, mg_271, mg_272, mg_273, mg_274, mg_275, mg_276, mg_277, mg_278, mg_279, mg_280, fa_260, fa_261, fa_262, fa_263, fa_264, fa_265, fa_266, fa_267, fa_268, fa_269, fa_270, fa_271, fa_272, fa_273, fa_274, fa_275, fa_276, fa_277, fa_278, fa_279, fa_280, fs_260, fs_261, fs_262, fs_263, fs_264, fs_265, fs_266, fs_267, fs_268, fs_269, fs_270, fs_271, fs_272, fs_273, fs_274, fs_275, fs_276, fs_277, fs_278, fs_279, fs_280, fw_259, fz_259, bmap, mbind, mite, Option.map_some, Option.map_none, Option.bind_some, mgP, ih, hK16, fr_M_advance_113 hK16, fr_M_cueRow, fr_M_follow, fr_M_taken]
theorem fr_M_advance_35 {μ ρ : Mem} {K16 J16 : Mem → Int → Option (Int × Mem)} {l1 : Int} {l2 : Int} (hK16 : ∀ (ρ : Mem) (l2 : Int), K16 (mg μ ρ) l2 = (J16 ρ l2).map (mgP μ)) {n : Nat} {l3 : Int} : M_advance_35 K16 l1 l2 n (mg μ ρ) l3 = (M_advance_35 J16 l1 l2 n ρ l3).map (mgP μ) := fr_M_advance_35_x hK16 _ _ _
theorem fr_M_advance_16_x {μ : Mem}  {l1 : Int}  : ∀ (n : Nat) (ρ : Mem) (l2 : Int), M_advance_16 l1 n (mg μ ρ) l2 = (M_advance_16 l1 n ρ l2).map (mgP μ) := by
  intro n
  induction n with
  | zero => intro ρ l2; rfl
  | succ n ih =>
    intro ρ l2
    rw [M_advance_16, M_advance_16]
    simp only [mg_259, mg_260, mg_261, mg_262, mg_263, mg_264, mg_265, mg_266, mg_267, mg_268, mg_269, mg_270, mg_271, mg_272, mg_273, mg_274, mg_275, mg_276, mg_277, mg_278, mg_279, mg_280, fa_260, fa_261, fa_262, fa_263, fa_264, fa_265, fa_266, fa_267, fa_268, fa_269, fa_270, fa_271, fa_272, fa_273, fa_274, fa_275, fa_276, fa_277, fa_278, fa_279, fa_280, fs_260, fs_261, fs_262, fs_263, fs_264, fs_265, fs_266, fs_267, fs_268, fs_269, fs_270, fs_271, fs_272, fs_273, fs_274, fs_275, fs_276, fs_277, fs_278, fs_279, fs_280, fw_259, fz_259, bmap, mbind, mite, Option.map_some, Option.map_none, Option.bind_some, mgP, ih, fr_M_advance_35 ih]
theorem fr_M_advance_16 {μ ρ : Mem}  {l1 : Int}  {n : Nat} {l2 : Int} : M_advance_16 l1 n (mg μ ρ) l2 = (M_advance_16 l1 n ρ l2).map (mgP μ) := fr_M_advance_16_x  _ _ _
theorem fr_M_advance {μ ρ : Mem}  {a1 : Int}  : M_advance (mg μ ρ) a1 = (M_advance ρ a1).map (mgP μ) := by
  unfold M_advance
  simp only [mg_259, mg_260, mg_261, mg_262, mg_263, mg_264, mg_265, mg_266, mg_267, mg_268, mg_269, mg_270, mg_271, mg_272, mg_273, mg_274, mg_275, mg_276, mg_277, mg_278, mg_279, mg_280, fa_260, fa_261, fa_262, fa_263, fa_264, fa_265, fa_266, fa_267, fa_268, fa_269, fa_270, fa_271, fa_272, fa_273, fa_274, fa_275, fa_276, fa_277, fa_278, fa_279, fa_280, fs_260, fs_261, fs_262, fs_263, fs_264, fs_265, fs_266, fs_267, fs_268, fs_269, fs_270, fs_271, fs_272, fs_273, fs_274, fs_275, fs_276, fs_277, fs_278, fs_279, fs_280, fw_259, fz_259, bmap, mbind, mite, Option.map_some, Option.map_none, Option.bind_some, mgP, fr_M_advance_16, fr_M_in]
theorem fr_M_fader {μ ρ : Mem}  {a1 : Int} {a2 : Int}  : M_fader (mg μ ρ) a1 a2 = (M_fader ρ a1 a2).map (mgP μ) := by
  unfold M_fader
  simp only [mg_259, mg_260, mg_261, mg_262, mg_263, mg_264, mg_265, mg_266, mg_267, mg_268, mg_269, mg_270, mg_271, mg_272, mg_273, mg_274, mg_275, mg_276, mg_277, mg_278, mg_279, mg_280, fa_260, fa_261, fa_262, fa_263, fa_264, fa_265, fa_266, fa_267, fa_268, fa_269, fa_270, fa_271, fa_272, fa_273, fa_274, fa_275, fa_276, fa_277, fa_278, fa_279, fa_280, fs_260, fs_261, fs_262, fs_263, fs_264, fs_265, fs_266, fs_267, fs_268, fs_269, fs_270, fs_271, fs_272, fs_273, fs_274, fs_275, fs_276, fs_277, fs_278, fs_279, fs_280, fw_259, fz_259, bmap, mbind, mite, Option.map_some, Option.map_none, Option.bind_some, mgP, fr_M_in]
theorem fr_M_bump {μ ρ : Mem}  {a1 : Int} {a2 : Int}  : M_bump (mg μ ρ) a1 a2 = (M_bump ρ a1 a2).map (mgP μ) := by
  unfold M_bump
  simp only [mg_259, mg_260, mg_261, mg_262, mg_263, mg_264, mg_265, mg_266, mg_267, mg_268, mg_269, mg_270, mg_271, mg_272, mg_273, mg_274, mg_275, mg_276, mg_277, mg_278, mg_279, mg_280, fa_260, fa_261, fa_262, fa_263, fa_264, fa_265, fa_266, fa_267, fa_268, fa_269, fa_270, fa_271, fa_272, fa_273, fa_274, fa_275, fa_276, fa_277, fa_278, fa_279, fa_280, fs_260, fs_261, fs_262, fs_263, fs_264, fs_265, fs_266, fs_267, fs_268, fs_269, fs_270, fs_271, fs_272, fs_273, fs_274, fs_275, fs_276, fs_277, fs_278, fs_279, fs_280, fw_259, fz_259, bmap, mbind, mite, Option.map_some, Option.map_none, Option.bind_some, mgP, fr_M_in]
theorem fr_M_grand {μ ρ : Mem}  {a1 : Int}  : M_grand (mg μ ρ) a1 = (M_grand ρ a1).map (mgP μ) := by
  unfold M_grand
  simp only [mg_259, mg_260, mg_261, mg_262, mg_263, mg_264, mg_265, mg_266, mg_267, mg_268, mg_269, mg_270, mg_271, mg_272, mg_273, mg_274, mg_275, mg_276, mg_277, mg_278, mg_279, mg_280, fa_260, fa_261, fa_262, fa_263, fa_264, fa_265, fa_266, fa_267, fa_268, fa_269, fa_270, fa_271, fa_272, fa_273, fa_274, fa_275, fa_276, fa_277, fa_278, fa_279, fa_280, fs_260, fs_261, fs_262, fs_263, fs_264, fs_265, fs_266, fs_267, fs_268, fs_269, fs_270, fs_271, fs_272, fs_273, fs_274, fs_275, fs_276, fs_277, fs_278, fs_279, fs_280, fw_259, fz_259, bmap, mbind, mite, Option.map_some, Option.map_none, Option.bind_some, mgP, fr_M_in]
theorem fr_M_black {μ ρ : Mem}  {a1 : Int}  : M_black (mg μ ρ) a1 = (M_black ρ a1).map (mgP μ) := by
  unfold M_black
  simp only [mg_259, mg_260, mg_261, mg_262, mg_263, mg_264, mg_265, mg_266, mg_267, mg_268, mg_269, mg_270, mg_271, mg_272, mg_273, mg_274, mg_275, mg_276, mg_277, mg_278, mg_279, mg_280, fa_260, fa_261, fa_262, fa_263, fa_264, fa_265, fa_266, fa_267, fa_268, fa_269, fa_270, fa_271, fa_272, fa_273, fa_274, fa_275, fa_276, fa_277, fa_278, fa_279, fa_280, fs_260, fs_261, fs_262, fs_263, fs_264, fs_265, fs_266, fs_267, fs_268, fs_269, fs_270, fs_271, fs_272, fs_273, fs_274, fs_275, fs_276, fs_277, fs_278, fs_279, fs_280, fw_259, fz_259, bmap, mbind, mite, Option.map_some, Option.map_none, Option.bind_some, mgP]
theorem fr_M_run {μ ρ : Mem}  {a1 : Int} {a2 : Int}  : M_run (mg μ ρ) a1 a2 = (M_run ρ a1 a2).map (mgP μ) := by
  unfold M_run
  simp only [mg_259, mg_260, mg_261, mg_262, mg_263, mg_264, mg_265, mg_266, mg_267, mg_268, mg_269, mg_270, mg_271, mg_272, mg_273, mg_274, mg_275, mg_276, mg_277, mg_278, mg_279, mg_280, fa_260, fa_261, fa_262, fa_263, fa_264, fa_265, fa_266, fa_267, fa_268, fa_269, fa_270, fa_271, fa_272, fa_273, fa_274, fa_275, fa_276, fa_277, fa_278, fa_279, fa_280, fs_260, fs_261, fs_262, fs_263, fs_264, fs_265, fs_266, fs_267, fs_268, fs_269, fs_270, fs_271, fs_272, fs_273, fs_274, fs_275, fs_276, fs_277, fs_278, fs_279, fs_280, fw_259, fz_259, bmap, mbind, mite, Option.map_some, Option.map_none, Option.bind_some, mgP, fr_M_in]
theorem fr_M_isUnit {μ ρ : Mem}  {a1 : Int}  : M_isUnit (mg μ ρ) a1 = M_isUnit ρ a1 := by
  unfold M_isUnit
  simp only [mg_259, mg_260, mg_261, mg_262, mg_263, mg_264, mg_265, mg_266, mg_267, mg_268, mg_269, mg_270, mg_271, mg_272, mg_273, mg_274, mg_275, mg_276, mg_277, mg_278, mg_279, mg_280, fa_260, fa_261, fa_262, fa_263, fa_264, fa_265, fa_266, fa_267, fa_268, fa_269, fa_270, fa_271, fa_272, fa_273, fa_274, fa_275, fa_276, fa_277, fa_278, fa_279, fa_280, fs_260, fs_261, fs_262, fs_263, fs_264, fs_265, fs_266, fs_267, fs_268, fs_269, fs_270, fs_271, fs_272, fs_273, fs_274, fs_275, fs_276, fs_277, fs_278, fs_279, fs_280, fw_259, fz_259, bmap, mbind, mite, Option.map_some, Option.map_none, Option.bind_some, mgP, fr_M_in, fr_M_isPatched]
theorem fr_M_level {μ ρ : Mem}  {a1 : Int} {a2 : Int}  : M_level (mg μ ρ) a1 a2 = M_level ρ a1 a2 := by
  unfold M_level
  simp only [mg_259, mg_260, mg_261, mg_262, mg_263, mg_264, mg_265, mg_266, mg_267, mg_268, mg_269, mg_270, mg_271, mg_272, mg_273, mg_274, mg_275, mg_276, mg_277, mg_278, mg_279, mg_280, fa_260, fa_261, fa_262, fa_263, fa_264, fa_265, fa_266, fa_267, fa_268, fa_269, fa_270, fa_271, fa_272, fa_273, fa_274, fa_275, fa_276, fa_277, fa_278, fa_279, fa_280, fs_260, fs_261, fs_262, fs_263, fs_264, fs_265, fs_266, fs_267, fs_268, fs_269, fs_270, fs_271, fs_272, fs_273, fs_274, fs_275, fs_276, fs_277, fs_278, fs_279, fs_280, fw_259, fz_259, bmap, mbind, mite, Option.map_some, Option.map_none, Option.bind_some, mgP, fr_M_has, fr_M_in, fr_M_isUnit, fr_M_levelAt]
theorem fr_M_shownAt_182 {μ ρ : Mem}  {l1 : Int} {s0 : Int}  : M_shownAt_182 (mg μ ρ) l1 s0 = M_shownAt_182 ρ l1 s0 := by
  unfold M_shownAt_182
  simp only [mg_259, mg_260, mg_261, mg_262, mg_263, mg_264, mg_265, mg_266, mg_267, mg_268, mg_269, mg_270, mg_271, mg_272, mg_273, mg_274, mg_275, mg_276, mg_277, mg_278, mg_279, mg_280, fa_260, fa_261, fa_262, fa_263, fa_264, fa_265, fa_266, fa_267, fa_268, fa_269, fa_270, fa_271, fa_272, fa_273, fa_274, fa_275, fa_276, fa_277, fa_278, fa_279, fa_280, fs_260, fs_261, fs_262, fs_263, fs_264, fs_265, fs_266, fs_267, fs_268, fs_269, fs_270, fs_271, fs_272, fs_273, fs_274, fs_275, fs_276, fs_277, fs_278, fs_279, fs_280, fw_259, fz_259, bmap, mbind, mite, Option.map_some, Option.map_none, Option.bind_some, mgP]
theorem fr_M_shownAt_116 {μ ρ : Mem}  {l1 : Int} {s0 : Int}  : M_shownAt_116 (mg μ ρ) l1 s0 = M_shownAt_116 ρ l1 s0 := by
  unfold M_shownAt_116
  simp only [mg_259, mg_260, mg_261, mg_262, mg_263, mg_264, mg_265, mg_266, mg_267, mg_268, mg_269, mg_270, mg_271, mg_272, mg_273, mg_274, mg_275, mg_276, mg_277, mg_278, mg_279, mg_280, fa_260, fa_261, fa_262, fa_263, fa_264, fa_265, fa_266, fa_267, fa_268, fa_269, fa_270, fa_271, fa_272, fa_273, fa_274, fa_275, fa_276, fa_277, fa_278, fa_279, fa_280, fs_260, fs_261, fs_262, fs_263, fs_264, fs_265, fs_266, fs_267, fs_268, fs_269, fs_270, fs_271, fs_272, fs_273, fs_274, fs_275, fs_276, fs_277, fs_278, fs_279, fs_280, fw_259, fz_259, bmap, mbind, mite, Option.map_some, Option.map_none, Option.bind_some, mgP, fr_M_shownAt_182]
theorem fr_M_shownAt_18_x {μ ρ : Mem}  {l1 : Int}  : ∀ (n : Nat) (l2 : Int) (l3 : Int), M_shownAt_18 (mg μ ρ) l1 n l2 l3 = M_shownAt_18 ρ l1 n l2 l3 := by
  intro n
  induction n with
  | zero => intro l2 l3; rfl
  | succ n ih =>
    intro l2 l3
    rw [M_shownAt_18, M_shownAt_18]
    simp only [mg_259, mg_260, mg_261, mg_262, mg_263, mg_264, mg_265, mg_266, mg_267, mg_268, mg_269, mg_270, mg_271, mg_272, mg_273, mg_274, mg_275, mg_276, mg_277, mg_278, mg_279, mg_280, fa_260, fa_261, fa_262, fa_263, fa_264, fa_265, fa_266, fa_267, fa_268, fa_269, fa_270, fa_271, fa_272, fa_273, fa_274, fa_275, fa_276, fa_277, fa_278, fa_279, fa_280, fs_260, fs_261, fs_262, fs_263, fs_264, fs_265, fs_266, fs_267, fs_268, fs_269, fs_270, fs_271, fs_272, fs_273, fs_274, fs_275, fs_276, fs_277, fs_278, fs_279, fs_280, fw_259, fz_259, bmap, mbind, mite, Option.map_some, Option.map_none, Option.bind_some, mgP, ih, fr_M_shownAt_116]
theorem fr_M_shownAt_18 {μ ρ : Mem}  {l1 : Int}  {n : Nat} {l2 : Int} {l3 : Int} : M_shownAt_18 (mg μ ρ) l1 n l2 l3 = M_shownAt_18 ρ l1 n l2 l3 := fr_M_shownAt_18_x  _ _ _
theorem fr_M_shownAt {μ ρ : Mem}  {a1 : Int}  : M_shownAt (mg μ ρ) a1 = M_shownAt ρ a1 := by
  unfold M_shownAt
  simp only [mg_259, mg_260, mg_261, mg_262, mg_263, mg_264, mg_265, mg_266, mg_267, mg_268, mg_269, mg_270, mg_271, mg_272, mg_273, mg_274, mg_275, mg_276, mg_277, mg_278, mg_279, mg_280, fa_260, fa_261, fa_262, fa_263, fa_264, fa_265, fa_266, fa_267, fa_268, fa_269, fa_270, fa_271, fa_272, fa_273, fa_274, fa_275, fa_276, fa_277, fa_278, fa_279, fa_280, fs_260, fs_261, fs_262, fs_263, fs_264, fs_265, fs_266, fs_267, fs_268, fs_269, fs_270, fs_271, fs_272, fs_273, fs_274, fs_275, fs_276, fs_277, fs_278, fs_279, fs_280, fw_259, fz_259, bmap, mbind, mite, Option.map_some, Option.map_none, Option.bind_some, mgP, fr_M_levelAt, fr_M_shownAt_18]
theorem fr_M_shown {μ ρ : Mem}  {a1 : Int}  : M_shown (mg μ ρ) a1 = M_shown ρ a1 := by
  unfold M_shown
  simp only [mg_259, mg_260, mg_261, mg_262, mg_263, mg_264, mg_265, mg_266, mg_267, mg_268, mg_269, mg_270, mg_271, mg_272, mg_273, mg_274, mg_275, mg_276, mg_277, mg_278, mg_279, mg_280, fa_260, fa_261, fa_262, fa_263, fa_264, fa_265, fa_266, fa_267, fa_268, fa_269, fa_270, fa_271, fa_272, fa_273, fa_274, fa_275, fa_276, fa_277, fa_278, fa_279, fa_280, fs_260, fs_261, fs_262, fs_263, fs_264, fs_265, fs_266, fs_267, fs_268, fs_269, fs_270, fs_271, fs_272, fs_273, fs_274, fs_275, fs_276, fs_277, fs_278, fs_279, fs_280, fw_259, fz_259, bmap, mbind, mite, Option.map_some, Option.map_none, Option.bind_some, mgP, fr_M_isUnit, fr_M_shownAt]
theorem fr_M_output_102 {μ ρ : Mem}  {l1 : Int} {l2 : Int} {l3 : Int} {l5 : Int}  : M_output_102 (mg μ ρ) l1 l2 l3 l5 = M_output_102 ρ l1 l2 l3 l5 := by
  unfold M_output_102
  simp only [mg_259, mg_260, mg_261, mg_262, mg_263, mg_264, mg_265, mg_266, mg_267, mg_268, mg_269, mg_270, mg_271, mg_272, mg_273, mg_274, mg_275, mg_276, mg_277, mg_278, mg_279, mg_280, fa_260, fa_261, fa_262, fa_263, fa_264, fa_265, fa_266, fa_267, fa_268, fa_269, fa_270, fa_271, fa_272, fa_273, fa_274, fa_275, fa_276, fa_277, fa_278, fa_279, fa_280, fs_260, fs_261, fs_262, fs_263, fs_264, fs_265, fs_266, fs_267, fs_268, fs_269, fs_270, fs_271, fs_272, fs_273, fs_274, fs_275, fs_276, fs_277, fs_278, fs_279, fs_280, fw_259, fz_259, bmap, mbind, mite, Option.map_some, Option.map_none, Option.bind_some, mgP, fr_M_in, fr_M_shownAt]
theorem fr_M_output_60 {μ ρ : Mem}  {l1 : Int} {l2 : Int} {l3 : Int} {s1 : Int} {s2 : Int}  : M_output_60 (mg μ ρ) l1 l2 l3 s1 s2 = M_output_60 ρ l1 l2 l3 s1 s2 := by
  unfold M_output_60
  simp only [mg_259, mg_260, mg_261, mg_262, mg_263, mg_264, mg_265, mg_266, mg_267, mg_268, mg_269, mg_270, mg_271, mg_272, mg_273, mg_274, mg_275, mg_276, mg_277, mg_278, mg_279, mg_280, fa_260, fa_261, fa_262, fa_263, fa_264, fa_265, fa_266, fa_267, fa_268, fa_269, fa_270, fa_271, fa_272, fa_273, fa_274, fa_275, fa_276, fa_277, fa_278, fa_279, fa_280, fs_260, fs_261, fs_262, fs_263, fs_264, fs_265, fs_266, fs_267, fs_268, fs_269, fs_270, fs_271, fs_272, fs_273, fs_274, fs_275, fs_276, fs_277, fs_278, fs_279, fs_280, fw_259, fz_259, bmap, mbind, mite, Option.map_some, Option.map_none, Option.bind_some, mgP, fr_M_levelAt, fr_M_output_102, fr_M_shownAt]
theorem fr_M_output_43 {μ ρ : Mem}  {l1 : Int} {l2 : Int} {l3 : Int} {s0 : Int}  : M_output_43 (mg μ ρ) l1 l2 l3 s0 = M_output_43 ρ l1 l2 l3 s0 := by
  unfold M_output_43
  simp only [mg_259, mg_260, mg_261, mg_262, mg_263, mg_264, mg_265, mg_266, mg_267, mg_268, mg_269, mg_270, mg_271, mg_272, mg_273, mg_274, mg_275, mg_276, mg_277, mg_278, mg_279, mg_280, fa_260, fa_261, fa_262, fa_263, fa_264, fa_265, fa_266, fa_267, fa_268, fa_269, fa_270, fa_271, fa_272, fa_273, fa_274, fa_275, fa_276, fa_277, fa_278, fa_279, fa_280, fs_260, fs_261, fs_262, fs_263, fs_264, fs_265, fs_266, fs_267, fs_268, fs_269, fs_270, fs_271, fs_272, fs_273, fs_274, fs_275, fs_276, fs_277, fs_278, fs_279, fs_280, fw_259, fz_259, bmap, mbind, mite, Option.map_some, Option.map_none, Option.bind_some, mgP, fr_M_output_60]
theorem fr_M_output {μ ρ : Mem}  {a1 : Int} {a2 : Int}  : M_output (mg μ ρ) a1 a2 = M_output ρ a1 a2 := by
  unfold M_output
  simp only [mg_259, mg_260, mg_261, mg_262, mg_263, mg_264, mg_265, mg_266, mg_267, mg_268, mg_269, mg_270, mg_271, mg_272, mg_273, mg_274, mg_275, mg_276, mg_277, mg_278, mg_279, mg_280, fa_260, fa_261, fa_262, fa_263, fa_264, fa_265, fa_266, fa_267, fa_268, fa_269, fa_270, fa_271, fa_272, fa_273, fa_274, fa_275, fa_276, fa_277, fa_278, fa_279, fa_280, fs_260, fs_261, fs_262, fs_263, fs_264, fs_265, fs_266, fs_267, fs_268, fs_269, fs_270, fs_271, fs_272, fs_273, fs_274, fs_275, fs_276, fs_277, fs_278, fs_279, fs_280, fw_259, fz_259, bmap, mbind, mite, Option.map_some, Option.map_none, Option.bind_some, mgP, fr_M_output_43]
theorem fr_M_byteOf_36 {μ ρ : Mem} {K18 J18 : Int → Int → Option (Int)} {l1 : Int} {l3 : Int} {l4 : Int} {s0 : Int} {s1 : Int} (hK18 : ∀ (l3 : Int) (l4 : Int), K18 l3 l4 = J18 l3 l4) : M_byteOf_36 K18 (mg μ ρ) l1 l3 l4 s0 s1 = M_byteOf_36 J18 ρ l1 l3 l4 s0 s1 := by
  unfold M_byteOf_36
  simp only [mg_259, mg_260, mg_261, mg_262, mg_263, mg_264, mg_265, mg_266, mg_267, mg_268, mg_269, mg_270, mg_271, mg_272, mg_273, mg_274, mg_275, mg_276, mg_277, mg_278, mg_279, mg_280, fa_260, fa_261, fa_262, fa_263, fa_264, fa_265, fa_266, fa_267, fa_268, fa_269, fa_270, fa_271, fa_272, fa_273, fa_274, fa_275, fa_276, fa_277, fa_278, fa_279, fa_280, fs_260, fs_261, fs_262, fs_263, fs_264, fs_265, fs_266, fs_267, fs_268, fs_269, fs_270, fs_271, fs_272, fs_273, fs_274, fs_275, fs_276, fs_277, fs_278, fs_279, fs_280, fw_259, fz_259, bmap, mbind, mite, Option.map_some, Option.map_none, Option.bind_some, mgP, hK18, fr_M_output]
theorem fr_M_byteOf_18_x {μ ρ : Mem}  {l1 : Int}  : ∀ (n : Nat) (l3 : Int) (l4 : Int), M_byteOf_18 (mg μ ρ) l1 n l3 l4 = M_byteOf_18 ρ l1 n l3 l4 := by
  intro n
  induction n with
  | zero => intro l3 l4; rfl
  | succ n ih =>
    intro l3 l4
    rw [M_byteOf_18, M_byteOf_18]
    simp only [mg_259, mg_260, mg_261, mg_262, mg_263, mg_264, mg_265, mg_266, mg_267, mg_268, mg_269, mg_270, mg_271, mg_272, mg_273, mg_274, mg_275, mg_276, mg_277, mg_278, mg_279, mg_280, fa_260, fa_261, fa_262, fa_263, fa_264, fa_265, fa_266, fa_267, fa_268, fa_269, fa_270, fa_271, fa_272, fa_273, fa_274, fa_275, fa_276, fa_277, fa_278, fa_279, fa_280, fs_260, fs_261, fs_262, fs_263, fs_264, fs_265, fs_266, fs_267, fs_268, fs_269, fs_270, fs_271, fs_272, fs_273, fs_274, fs_275, fs_276, fs_277, fs_278, fs_279, fs_280, fw_259, fz_259, bmap, mbind, mite, Option.map_some, Option.map_none, Option.bind_some, mgP, ih, fr_M_byteOf_36 ih]
theorem fr_M_byteOf_18 {μ ρ : Mem}  {l1 : Int}  {n : Nat} {l3 : Int} {l4 : Int} : M_byteOf_18 (mg μ ρ) l1 n l3 l4 = M_byteOf_18 ρ l1 n l3 l4 := fr_M_byteOf_18_x  _ _ _
theorem fr_M_byteOf {μ ρ : Mem}  {a1 : Int} {a2 : Int}  : M_byteOf (mg μ ρ) a1 a2 = M_byteOf ρ a1 a2 := by
  unfold M_byteOf
  simp only [mg_259, mg_260, mg_261, mg_262, mg_263, mg_264, mg_265, mg_266, mg_267, mg_268, mg_269, mg_270, mg_271, mg_272, mg_273, mg_274, mg_275, mg_276, mg_277, mg_278, mg_279, mg_280, fa_260, fa_261, fa_262, fa_263, fa_264, fa_265, fa_266, fa_267, fa_268, fa_269, fa_270, fa_271, fa_272, fa_273, fa_274, fa_275, fa_276, fa_277, fa_278, fa_279, fa_280, fs_260, fs_261, fs_262, fs_263, fs_264, fs_265, fs_266, fs_267, fs_268, fs_269, fs_270, fs_271, fs_272, fs_273, fs_274, fs_275, fs_276, fs_277, fs_278, fs_279, fs_280, fw_259, fz_259, bmap, mbind, mite, Option.map_some, Option.map_none, Option.bind_some, mgP, fr_M_byteOf_18]
theorem fr_M_slot_46_x {μ ρ : Mem}  {l1 : Int}  : ∀ (n : Nat) (l2 : Int) (l3 : Int), M_slot_46 (mg μ ρ) l1 n l2 l3 = M_slot_46 ρ l1 n l2 l3 := by
  intro n
  induction n with
  | zero => intro l2 l3; rfl
  | succ n ih =>
    intro l2 l3
    rw [M_slot_46, M_slot_46]
    simp only [mg_259, mg_260, mg_261, mg_262, mg_263, mg_264, mg_265, mg_266, mg_267, mg_268, mg_269, mg_270, mg_271, mg_272, mg_273, mg_274, mg_275, mg_276, mg_277, mg_278, mg_279, mg_280, fa_260, fa_261, fa_262, fa_263, fa_264, fa_265, fa_266, fa_267, fa_268, fa_269, fa_270, fa_271, fa_272, fa_273, fa_274, fa_275, fa_276, fa_277, fa_278, fa_279, fa_280, fs_260, fs_261, fs_262, fs_263, fs_264, fs_265, fs_266, fs_267, fs_268, fs_269, fs_270, fs_271, fs_272, fs_273, fs_274, fs_275, fs_276, fs_277, fs_278, fs_279, fs_280, fw_259, fz_259, bmap, mbind, mite, Option.map_some, Option.map_none, Option.bind_some, mgP, ih, fr_M_byteOf, fr_M_in, fr_M_isPatched, fr_M_width]
theorem fr_M_slot_46 {μ ρ : Mem}  {l1 : Int}  {n : Nat} {l2 : Int} {l3 : Int} : M_slot_46 (mg μ ρ) l1 n l2 l3 = M_slot_46 ρ l1 n l2 l3 := fr_M_slot_46_x  _ _ _
theorem fr_M_slot {μ ρ : Mem}  {a1 : Int}  : M_slot (mg μ ρ) a1 = M_slot ρ a1 := by
  unfold M_slot
  simp only [mg_259, mg_260, mg_261, mg_262, mg_263, mg_264, mg_265, mg_266, mg_267, mg_268, mg_269, mg_270, mg_271, mg_272, mg_273, mg_274, mg_275, mg_276, mg_277, mg_278, mg_279, mg_280, fa_260, fa_261, fa_262, fa_263, fa_264, fa_265, fa_266, fa_267, fa_268, fa_269, fa_270, fa_271, fa_272, fa_273, fa_274, fa_275, fa_276, fa_277, fa_278, fa_279, fa_280, fs_260, fs_261, fs_262, fs_263, fs_264, fs_265, fs_266, fs_267, fs_268, fs_269, fs_270, fs_271, fs_272, fs_273, fs_274, fs_275, fs_276, fs_277, fs_278, fs_279, fs_280, fw_259, fz_259, bmap, mbind, mite, Option.map_some, Option.map_none, Option.bind_some, mgP, fr_M_in, fr_M_slot_46]
theorem fr_M_isField {μ ρ : Mem}  {a0 : Int} {a1 : Int}  : M_isField (mg μ ρ) a0 a1 = M_isField ρ a0 a1 := by
  unfold M_isField
  simp only [mg_259, mg_260, mg_261, mg_262, mg_263, mg_264, mg_265, mg_266, mg_267, mg_268, mg_269, mg_270, mg_271, mg_272, mg_273, mg_274, mg_275, mg_276, mg_277, mg_278, mg_279, mg_280, fa_260, fa_261, fa_262, fa_263, fa_264, fa_265, fa_266, fa_267, fa_268, fa_269, fa_270, fa_271, fa_272, fa_273, fa_274, fa_275, fa_276, fa_277, fa_278, fa_279, fa_280, fs_260, fs_261, fs_262, fs_263, fs_264, fs_265, fs_266, fs_267, fs_268, fs_269, fs_270, fs_271, fs_272, fs_273, fs_274, fs_275, fs_276, fs_277, fs_278, fs_279, fs_280, fw_259, fz_259, bmap, mbind, mite, Option.map_some, Option.map_none, Option.bind_some, mgP, fr_M_in]
theorem fr_M_field {μ ρ : Mem}  {a0 : Int} {a1 : Int}  : M_field (mg μ ρ) a0 a1 = M_field ρ a0 a1 := by
  unfold M_field
  simp only [mg_259, mg_260, mg_261, mg_262, mg_263, mg_264, mg_265, mg_266, mg_267, mg_268, mg_269, mg_270, mg_271, mg_272, mg_273, mg_274, mg_275, mg_276, mg_277, mg_278, mg_279, mg_280, fa_260, fa_261, fa_262, fa_263, fa_264, fa_265, fa_266, fa_267, fa_268, fa_269, fa_270, fa_271, fa_272, fa_273, fa_274, fa_275, fa_276, fa_277, fa_278, fa_279, fa_280, fs_260, fs_261, fs_262, fs_263, fs_264, fs_265, fs_266, fs_267, fs_268, fs_269, fs_270, fs_271, fs_272, fs_273, fs_274, fs_275, fs_276, fs_277, fs_278, fs_279, fs_280, fw_259, fz_259, bmap, mbind, mite, Option.map_some, Option.map_none, Option.bind_some, mgP]
theorem fr_M_tracked {μ ρ : Mem}  {a1 : Int} {a2 : Int} {a3 : Int}  : M_tracked (mg μ ρ) a1 a2 a3 = M_tracked ρ a1 a2 a3 := by
  unfold M_tracked
  simp only [mg_259, mg_260, mg_261, mg_262, mg_263, mg_264, mg_265, mg_266, mg_267, mg_268, mg_269, mg_270, mg_271, mg_272, mg_273, mg_274, mg_275, mg_276, mg_277, mg_278, mg_279, mg_280, fa_260, fa_261, fa_262, fa_263, fa_264, fa_265, fa_266, fa_267, fa_268, fa_269, fa_270, fa_271, fa_272, fa_273, fa_274, fa_275, fa_276, fa_277, fa_278, fa_279, fa_280, fs_260, fs_261, fs_262, fs_263, fs_264, fs_265, fs_266, fs_267, fs_268, fs_269, fs_270, fs_271, fs_272, fs_273, fs_274, fs_275, fs_276, fs_277, fs_278, fs_279, fs_280, fw_259, fz_259, bmap, mbind, mite, Option.map_some, Option.map_none, Option.bind_some, mgP, fr_M_field, fr_M_in, fr_M_isField, fr_M_trackedLevel]
theorem fr_M_origin {μ ρ : Mem}  {a1 : Int} {a2 : Int} {a3 : Int}  : M_origin (mg μ ρ) a1 a2 a3 = M_origin ρ a1 a2 a3 := by
  unfold M_origin
  simp only [mg_259, mg_260, mg_261, mg_262, mg_263, mg_264, mg_265, mg_266, mg_267, mg_268, mg_269, mg_270, mg_271, mg_272, mg_273, mg_274, mg_275, mg_276, mg_277, mg_278, mg_279, mg_280, fa_260, fa_261, fa_262, fa_263, fa_264, fa_265, fa_266, fa_267, fa_268, fa_269, fa_270, fa_271, fa_272, fa_273, fa_274, fa_275, fa_276, fa_277, fa_278, fa_279, fa_280, fs_260, fs_261, fs_262, fs_263, fs_264, fs_265, fs_266, fs_267, fs_268, fs_269, fs_270, fs_271, fs_272, fs_273, fs_274, fs_275, fs_276, fs_277, fs_278, fs_279, fs_280, fw_259, fz_259, bmap, mbind, mite, Option.map_some, Option.map_none, Option.bind_some, mgP, fr_M_field, fr_M_in, fr_M_isField, fr_M_originOf]
theorem fr_M_change {μ ρ : Mem}  {a1 : Int} {a2 : Int} {a3 : Int}  : M_change (mg μ ρ) a1 a2 a3 = M_change ρ a1 a2 a3 := by
  unfold M_change
  simp only [mg_259, mg_260, mg_261, mg_262, mg_263, mg_264, mg_265, mg_266, mg_267, mg_268, mg_269, mg_270, mg_271, mg_272, mg_273, mg_274, mg_275, mg_276, mg_277, mg_278, mg_279, mg_280, fa_260, fa_261, fa_262, fa_263, fa_264, fa_265, fa_266, fa_267, fa_268, fa_269, fa_270, fa_271, fa_272, fa_273, fa_274, fa_275, fa_276, fa_277, fa_278, fa_279, fa_280, fs_260, fs_261, fs_262, fs_263, fs_264, fs_265, fs_266, fs_267, fs_268, fs_269, fs_270, fs_271, fs_272, fs_273, fs_274, fs_275, fs_276, fs_277, fs_278, fs_279, fs_280, fw_259, fz_259, bmap, mbind, mite, Option.map_some, Option.map_none, Option.bind_some, mgP, fr_M_cueRow, fr_M_field, fr_M_isField]
theorem fr_M_held {μ ρ : Mem}  {a1 : Int} {a2 : Int}  : M_held (mg μ ρ) a1 a2 = M_held ρ a1 a2 := by
  unfold M_held
  simp only [mg_259, mg_260, mg_261, mg_262, mg_263, mg_264, mg_265, mg_266, mg_267, mg_268, mg_269, mg_270, mg_271, mg_272, mg_273, mg_274, mg_275, mg_276, mg_277, mg_278, mg_279, mg_280, fa_260, fa_261, fa_262, fa_263, fa_264, fa_265, fa_266, fa_267, fa_268, fa_269, fa_270, fa_271, fa_272, fa_273, fa_274, fa_275, fa_276, fa_277, fa_278, fa_279, fa_280, fs_260, fs_261, fs_262, fs_263, fs_264, fs_265, fs_266, fs_267, fs_268, fs_269, fs_270, fs_271, fs_272, fs_273, fs_274, fs_275, fs_276, fs_277, fs_278, fs_279, fs_280, fw_259, fz_259, bmap, mbind, mite, Option.map_some, Option.map_none, Option.bind_some, mgP, fr_M_field, fr_M_isField]
theorem fr_M_valuesFrom_4_x {μ ρ : Mem}  {l1 : Int}  : ∀ (n : Nat) (l2 : Int) (l3 : Int), M_valuesFrom_4 (mg μ ρ) l1 n l2 l3 = M_valuesFrom_4 ρ l1 n l2 l3 := by
  intro n
  induction n with
  | zero => intro l2 l3; rfl
  | succ n ih =>
    intro l2 l3
    rw [M_valuesFrom_4, M_valuesFrom_4]
    simp only [mg_259, mg_260, mg_261, mg_262, mg_263, mg_264, mg_265, mg_266, mg_267, mg_268, mg_269, mg_270, mg_271, mg_272, mg_273, mg_274, mg_275, mg_276, mg_277, mg_278, mg_279, mg_280, fa_260, fa_261, fa_262, fa_263, fa_264, fa_265, fa_266, fa_267, fa_268, fa_269, fa_270, fa_271, fa_272, fa_273, fa_274, fa_275, fa_276, fa_277, fa_278, fa_279, fa_280, fs_260, fs_261, fs_262, fs_263, fs_264, fs_265, fs_266, fs_267, fs_268, fs_269, fs_270, fs_271, fs_272, fs_273, fs_274, fs_275, fs_276, fs_277, fs_278, fs_279, fs_280, fw_259, fz_259, bmap, mbind, mite, Option.map_some, Option.map_none, Option.bind_some, mgP, ih]
theorem fr_M_valuesFrom_4 {μ ρ : Mem}  {l1 : Int}  {n : Nat} {l2 : Int} {l3 : Int} : M_valuesFrom_4 (mg μ ρ) l1 n l2 l3 = M_valuesFrom_4 ρ l1 n l2 l3 := fr_M_valuesFrom_4_x  _ _ _
theorem fr_M_valuesFrom {μ ρ : Mem}  {a1 : Int}  : M_valuesFrom (mg μ ρ) a1 = M_valuesFrom ρ a1 := by
  unfold M_valuesFrom
  simp only [mg_259, mg_260, mg_261, mg_262, mg_263, mg_264, mg_265, mg_266, mg_267, mg_268, mg_269, mg_270, mg_271, mg_272, mg_273, mg_274, mg_275, mg_276, mg_277, mg_278, mg_279, mg_280, fa_260, fa_261, fa_262, fa_263, fa_264, fa_265, fa_266, fa_267, fa_268, fa_269, fa_270, fa_271, fa_272, fa_273, fa_274, fa_275, fa_276, fa_277, fa_278, fa_279, fa_280, fs_260, fs_261, fs_262, fs_263, fs_264, fs_265, fs_266, fs_267, fs_268, fs_269, fs_270, fs_271, fs_272, fs_273, fs_274, fs_275, fs_276, fs_277, fs_278, fs_279, fs_280, fw_259, fz_259, bmap, mbind, mite, Option.map_some, Option.map_none, Option.bind_some, mgP, fr_M_valuesFrom_4]
theorem fr_M_cue_35_x {μ ρ : Mem}  {l1 : Int} {l2 : Int}  : ∀ (n : Nat) (l3 : Int) (l4 : Int), M_cue_35 (mg μ ρ) l1 l2 n l3 l4 = M_cue_35 ρ l1 l2 n l3 l4 := by
  intro n
  induction n with
  | zero => intro l3 l4; rfl
  | succ n ih =>
    intro l3 l4
    rw [M_cue_35, M_cue_35]
    simp only [mg_259, mg_260, mg_261, mg_262, mg_263, mg_264, mg_265, mg_266, mg_267, mg_268, mg_269, mg_270, mg_271, mg_272, mg_273, mg_274, mg_275, mg_276, mg_277, mg_278, mg_279, mg_280, fa_260, fa_261, fa_262, fa_263, fa_264, fa_265, fa_266, fa_267, fa_268, fa_269, fa_270, fa_271, fa_272, fa_273, fa_274, fa_275, fa_276, fa_277, fa_278, fa_279, fa_280, fs_260, fs_261, fs_262, fs_263, fs_264, fs_265, fs_266, fs_267, fs_268, fs_269, fs_270, fs_271, fs_272, fs_273, fs_274, fs_275, fs_276, fs_277, fs_278, fs_279, fs_280, fw_259, fz_259, bmap, mbind, mite, Option.map_some, Option.map_none, Option.bind_some, mgP, ih, fr_M_cueRow, fr_M_numberAbove, fr_M_valuesFrom]
theorem fr_M_cue_35 {μ ρ : Mem}  {l1 : Int} {l2 : Int}  {n : Nat} {l3 : Int} {l4 : Int} : M_cue_35 (mg μ ρ) l1 l2 n l3 l4 = M_cue_35 ρ l1 l2 n l3 l4 := fr_M_cue_35_x  _ _ _
theorem fr_M_cue {μ ρ : Mem}  {a1 : Int} {a2 : Int}  : M_cue (mg μ ρ) a1 a2 = M_cue ρ a1 a2 := by
  unfold M_cue
  simp only [mg_259, mg_260, mg_261, mg_262, mg_263, mg_264, mg_265, mg_266, mg_267, mg_268, mg_269, mg_270, mg_271, mg_272, mg_273, mg_274, mg_275, mg_276, mg_277, mg_278, mg_279, mg_280, fa_260, fa_261, fa_262, fa_263, fa_264, fa_265, fa_266, fa_267, fa_268, fa_269, fa_270, fa_271, fa_272, fa_273, fa_274, fa_275, fa_276, fa_277, fa_278, fa_279, fa_280, fs_260, fs_261, fs_262, fs_263, fs_264, fs_265, fs_266, fs_267, fs_268, fs_269, fs_270, fs_271, fs_272, fs_273, fs_274, fs_275, fs_276, fs_277, fs_278, fs_279, fs_280, fw_259, fz_259, bmap, mbind, mite, Option.map_some, Option.map_none, Option.bind_some, mgP, fr_M_cue_35, fr_M_cues, fr_M_in, fr_M_numberAbove]
theorem fr_M_unit {μ ρ : Mem}  {a1 : Int} {a2 : Int}  : M_unit (mg μ ρ) a1 a2 = M_unit ρ a1 a2 := by
  unfold M_unit
  simp only [mg_259, mg_260, mg_261, mg_262, mg_263, mg_264, mg_265, mg_266, mg_267, mg_268, mg_269, mg_270, mg_271, mg_272, mg_273, mg_274, mg_275, mg_276, mg_277, mg_278, mg_279, mg_280, fa_260, fa_261, fa_262, fa_263, fa_264, fa_265, fa_266, fa_267, fa_268, fa_269, fa_270, fa_271, fa_272, fa_273, fa_274, fa_275, fa_276, fa_277, fa_278, fa_279, fa_280, fs_260, fs_261, fs_262, fs_263, fs_264, fs_265, fs_266, fs_267, fs_268, fs_269, fs_270, fs_271, fs_272, fs_273, fs_274, fs_275, fs_276, fs_277, fs_278, fs_279, fs_280, fw_259, fz_259, bmap, mbind, mite, Option.map_some, Option.map_none, Option.bind_some, mgP, fr_M_in, fr_M_isUnit]
theorem fr_M_group {μ ρ : Mem}  {a1 : Int} {a2 : Int}  : M_group (mg μ ρ) a1 a2 = M_group ρ a1 a2 := by
  unfold M_group
  simp only [mg_259, mg_260, mg_261, mg_262, mg_263, mg_264, mg_265, mg_266, mg_267, mg_268, mg_269, mg_270, mg_271, mg_272, mg_273, mg_274, mg_275, mg_276, mg_277, mg_278, mg_279, mg_280, fa_260, fa_261, fa_262, fa_263, fa_264, fa_265, fa_266, fa_267, fa_268, fa_269, fa_270, fa_271, fa_272, fa_273, fa_274, fa_275, fa_276, fa_277, fa_278, fa_279, fa_280, fs_260, fs_261, fs_262, fs_263, fs_264, fs_265, fs_266, fs_267, fs_268, fs_269, fs_270, fs_271, fs_272, fs_273, fs_274, fs_275, fs_276, fs_277, fs_278, fs_279, fs_280, fw_259, fz_259, bmap, mbind, mite, Option.map_some, Option.map_none, Option.bind_some, mgP, fr_M_in]
theorem fr_M_palette {μ ρ : Mem}  {a1 : Int} {a2 : Int}  : M_palette (mg μ ρ) a1 a2 = M_palette ρ a1 a2 := by
  unfold M_palette
  simp only [mg_259, mg_260, mg_261, mg_262, mg_263, mg_264, mg_265, mg_266, mg_267, mg_268, mg_269, mg_270, mg_271, mg_272, mg_273, mg_274, mg_275, mg_276, mg_277, mg_278, mg_279, mg_280, fa_260, fa_261, fa_262, fa_263, fa_264, fa_265, fa_266, fa_267, fa_268, fa_269, fa_270, fa_271, fa_272, fa_273, fa_274, fa_275, fa_276, fa_277, fa_278, fa_279, fa_280, fs_260, fs_261, fs_262, fs_263, fs_264, fs_265, fs_266, fs_267, fs_268, fs_269, fs_270, fs_271, fs_272, fs_273, fs_274, fs_275, fs_276, fs_277, fs_278, fs_279, fs_280, fw_259, fz_259, bmap, mbind, mite, Option.map_some, Option.map_none, Option.bind_some, mgP, fr_M_in]
theorem fr_M_sub {μ ρ : Mem}  {a1 : Int} {a2 : Int}  : M_sub (mg μ ρ) a1 a2 = M_sub ρ a1 a2 := by
  unfold M_sub
  simp only [mg_259, mg_260, mg_261, mg_262, mg_263, mg_264, mg_265, mg_266, mg_267, mg_268, mg_269, mg_270, mg_271, mg_272, mg_273, mg_274, mg_275, mg_276, mg_277, mg_278, mg_279, mg_280, fa_260, fa_261, fa_262, fa_263, fa_264, fa_265, fa_266, fa_267, fa_268, fa_269, fa_270, fa_271, fa_272, fa_273, fa_274, fa_275, fa_276, fa_277, fa_278, fa_279, fa_280, fs_260, fs_261, fs_262, fs_263, fs_264, fs_265, fs_266, fs_267, fs_268, fs_269, fs_270, fs_271, fs_272, fs_273, fs_274, fs_275, fs_276, fs_277, fs_278, fs_279, fs_280, fw_259, fz_259, bmap, mbind, mite, Option.map_some, Option.map_none, Option.bind_some, mgP, fr_M_in]
theorem fr_M_masters {μ ρ : Mem}  {a1 : Int}  : M_masters (mg μ ρ) a1 = M_masters ρ a1 := by
  unfold M_masters
  simp only [mg_259, mg_260, mg_261, mg_262, mg_263, mg_264, mg_265, mg_266, mg_267, mg_268, mg_269, mg_270, mg_271, mg_272, mg_273, mg_274, mg_275, mg_276, mg_277, mg_278, mg_279, mg_280, fa_260, fa_261, fa_262, fa_263, fa_264, fa_265, fa_266, fa_267, fa_268, fa_269, fa_270, fa_271, fa_272, fa_273, fa_274, fa_275, fa_276, fa_277, fa_278, fa_279, fa_280, fs_260, fs_261, fs_262, fs_263, fs_264, fs_265, fs_266, fs_267, fs_268, fs_269, fs_270, fs_271, fs_272, fs_273, fs_274, fs_275, fs_276, fs_277, fs_278, fs_279, fs_280, fw_259, fz_259, bmap, mbind, mite, Option.map_some, Option.map_none, Option.bind_some, mgP, fr_M_in]
theorem fr_M_park {μ ρ : Mem}  {a1 : Int}  : M_park (mg μ ρ) a1 = M_park ρ a1 := by
  unfold M_park
  simp only [mg_259, mg_260, mg_261, mg_262, mg_263, mg_264, mg_265, mg_266, mg_267, mg_268, mg_269, mg_270, mg_271, mg_272, mg_273, mg_274, mg_275, mg_276, mg_277, mg_278, mg_279, mg_280, fa_260, fa_261, fa_262, fa_263, fa_264, fa_265, fa_266, fa_267, fa_268, fa_269, fa_270, fa_271, fa_272, fa_273, fa_274, fa_275, fa_276, fa_277, fa_278, fa_279, fa_280, fs_260, fs_261, fs_262, fs_263, fs_264, fs_265, fs_266, fs_267, fs_268, fs_269, fs_270, fs_271, fs_272, fs_273, fs_274, fs_275, fs_276, fs_277, fs_278, fs_279, fs_280, fw_259, fz_259, bmap, mbind, mite, Option.map_some, Option.map_none, Option.bind_some, mgP, fr_M_in]
theorem fr_M_event {μ ρ : Mem}  {a1 : Int} {a2 : Int}  : M_event (mg μ ρ) a1 a2 = M_event ρ a1 a2 := by
  unfold M_event
  simp only [mg_259, mg_260, mg_261, mg_262, mg_263, mg_264, mg_265, mg_266, mg_267, mg_268, mg_269, mg_270, mg_271, mg_272, mg_273, mg_274, mg_275, mg_276, mg_277, mg_278, mg_279, mg_280, fa_260, fa_261, fa_262, fa_263, fa_264, fa_265, fa_266, fa_267, fa_268, fa_269, fa_270, fa_271, fa_272, fa_273, fa_274, fa_275, fa_276, fa_277, fa_278, fa_279, fa_280, fs_260, fs_261, fs_262, fs_263, fs_264, fs_265, fs_266, fs_267, fs_268, fs_269, fs_270, fs_271, fs_272, fs_273, fs_274, fs_275, fs_276, fs_277, fs_278, fs_279, fs_280, fw_259, fz_259, bmap, mbind, mite, Option.map_some, Option.map_none, Option.bind_some, mgP, fr_M_in]
theorem fr_M_wave {μ ρ : Mem}  {a1 : Int} {a2 : Int}  : M_wave (mg μ ρ) a1 a2 = M_wave ρ a1 a2 := by
  unfold M_wave
  simp only [mg_259, mg_260, mg_261, mg_262, mg_263, mg_264, mg_265, mg_266, mg_267, mg_268, mg_269, mg_270, mg_271, mg_272, mg_273, mg_274, mg_275, mg_276, mg_277, mg_278, mg_279, mg_280, fa_260, fa_261, fa_262, fa_263, fa_264, fa_265, fa_266, fa_267, fa_268, fa_269, fa_270, fa_271, fa_272, fa_273, fa_274, fa_275, fa_276, fa_277, fa_278, fa_279, fa_280, fs_260, fs_261, fs_262, fs_263, fs_264, fs_265, fs_266, fs_267, fs_268, fs_269, fs_270, fs_271, fs_272, fs_273, fs_274, fs_275, fs_276, fs_277, fs_278, fs_279, fs_280, fw_259, fz_259, bmap, mbind, mite, Option.map_some, Option.map_none, Option.bind_some, mgP, fr_M_in]
theorem fr_M_state_78_x {μ ρ : Mem}    : ∀ (n : Nat) (l2 : Int) (l3 : Int), M_state_78 (mg μ ρ) n l2 l3 = M_state_78 ρ n l2 l3 := by
  intro n
  induction n with
  | zero => intro l2 l3; rfl
  | succ n ih =>
    intro l2 l3
    rw [M_state_78, M_state_78]
    simp only [mg_259, mg_260, mg_261, mg_262, mg_263, mg_264, mg_265, mg_266, mg_267, mg_268, mg_269, mg_270, mg_271, mg_272, mg_273, mg_274, mg_275, mg_276, mg_277, mg_278, mg_279, mg_280, fa_260, fa_261, fa_262, fa_263, fa_264, fa_265, fa_266, fa_267, fa_268, fa_269, fa_270, fa_271, fa_272, fa_273, fa_274, fa_275, fa_276, fa_277, fa_278, fa_279, fa_280, fs_260, fs_261, fs_262, fs_263, fs_264, fs_265, fs_266, fs_267, fs_268, fs_269, fs_270, fs_271, fs_272, fs_273, fs_274, fs_275, fs_276, fs_277, fs_278, fs_279, fs_280, fw_259, fz_259, bmap, mbind, mite, Option.map_some, Option.map_none, Option.bind_some, mgP, ih, fr_M_isPatched]
theorem fr_M_state_78 {μ ρ : Mem}    {n : Nat} {l2 : Int} {l3 : Int} : M_state_78 (mg μ ρ) n l2 l3 = M_state_78 ρ n l2 l3 := fr_M_state_78_x  _ _ _
theorem fr_M_state_132_x {μ ρ : Mem}    : ∀ (n : Nat) (l2 : Int) (l3 : Int), M_state_132 (mg μ ρ) n l2 l3 = M_state_132 ρ n l2 l3 := by
  intro n
  induction n with
  | zero => intro l2 l3; rfl
  | succ n ih =>
    intro l2 l3
    rw [M_state_132, M_state_132]
    simp only [mg_259, mg_260, mg_261, mg_262, mg_263, mg_264, mg_265, mg_266, mg_267, mg_268, mg_269, mg_270, mg_271, mg_272, mg_273, mg_274, mg_275, mg_276, mg_277, mg_278, mg_279, mg_280, fa_260, fa_261, fa_262, fa_263, fa_264, fa_265, fa_266, fa_267, fa_268, fa_269, fa_270, fa_271, fa_272, fa_273, fa_274, fa_275, fa_276, fa_277, fa_278, fa_279, fa_280, fs_260, fs_261, fs_262, fs_263, fs_264, fs_265, fs_266, fs_267, fs_268, fs_269, fs_270, fs_271, fs_272, fs_273, fs_274, fs_275, fs_276, fs_277, fs_278, fs_279, fs_280, fw_259, fz_259, bmap, mbind, mite, Option.map_some, Option.map_none, Option.bind_some, mgP, ih, fr_M_cueLevel]
theorem fr_M_state_132 {μ ρ : Mem}    {n : Nat} {l2 : Int} {l3 : Int} : M_state_132 (mg μ ρ) n l2 l3 = M_state_132 ρ n l2 l3 := fr_M_state_132_x  _ _ _
theorem fr_M_state {μ ρ : Mem}  {a1 : Int}  : M_state (mg μ ρ) a1 = M_state ρ a1 := by
  unfold M_state
  simp only [mg_259, mg_260, mg_261, mg_262, mg_263, mg_264, mg_265, mg_266, mg_267, mg_268, mg_269, mg_270, mg_271, mg_272, mg_273, mg_274, mg_275, mg_276, mg_277, mg_278, mg_279, mg_280, fa_260, fa_261, fa_262, fa_263, fa_264, fa_265, fa_266, fa_267, fa_268, fa_269, fa_270, fa_271, fa_272, fa_273, fa_274, fa_275, fa_276, fa_277, fa_278, fa_279, fa_280, fs_260, fs_261, fs_262, fs_263, fs_264, fs_265, fs_266, fs_267, fs_268, fs_269, fs_270, fs_271, fs_272, fs_273, fs_274, fs_275, fs_276, fs_277, fs_278, fs_279, fs_280, fw_259, fz_259, bmap, mbind, mite, Option.map_some, Option.map_none, Option.bind_some, mgP, fr_M_cues, fr_M_state_132, fr_M_state_78, fr_M_valuesFrom]
theorem fr_M_write {μ ρ : Mem}  {a1 : Int}  : M_write (mg μ ρ) a1 = (M_write ρ a1).map (mg μ) := by
  unfold M_write
  simp only [mg_259, mg_260, mg_261, mg_262, mg_263, mg_264, mg_265, mg_266, mg_267, mg_268, mg_269, mg_270, mg_271, mg_272, mg_273, mg_274, mg_275, mg_276, mg_277, mg_278, mg_279, mg_280, fa_260, fa_261, fa_262, fa_263, fa_264, fa_265, fa_266, fa_267, fa_268, fa_269, fa_270, fa_271, fa_272, fa_273, fa_274, fa_275, fa_276, fa_277, fa_278, fa_279, fa_280, fs_260, fs_261, fs_262, fs_263, fs_264, fs_265, fs_266, fs_267, fs_268, fs_269, fs_270, fs_271, fs_272, fs_273, fs_274, fs_275, fs_276, fs_277, fs_278, fs_279, fs_280, fw_259, fz_259, bmap, mbind, mite, Option.map_some, Option.map_none, Option.bind_some, mgP]
theorem fr_M_solid {μ ρ : Mem}    : M_solid (mg μ ρ) = (M_solid ρ).map (mg μ) := by
  unfold M_solid
  simp only [mg_259, mg_260, mg_261, mg_262, mg_263, mg_264, mg_265, mg_266, mg_267, mg_268, mg_269, mg_270, mg_271, mg_272, mg_273, mg_274, mg_275, mg_276, mg_277, mg_278, mg_279, mg_280, fa_260, fa_261, fa_262, fa_263, fa_264, fa_265, fa_266, fa_267, fa_268, fa_269, fa_270, fa_271, fa_272, fa_273, fa_274, fa_275, fa_276, fa_277, fa_278, fa_279, fa_280, fs_260, fs_261, fs_262, fs_263, fs_264, fs_265, fs_266, fs_267, fs_268, fs_269, fs_270, fs_271, fs_272, fs_273, fs_274, fs_275, fs_276, fs_277, fs_278, fs_279, fs_280, fw_259, fz_259, bmap, mbind, mite, Option.map_some, Option.map_none, Option.bind_some, mgP, fr_M_write]
theorem fr_M_writeWord_33_x {μ : Mem}  {l1 : Int}  : ∀ (n : Nat) (ρ : Mem) (l4 : Int), M_writeWord_33 l1 n (mg μ ρ) l4 = (M_writeWord_33 l1 n ρ l4).map (mg μ) := by
  intro n
  induction n with
  | zero => intro ρ l4; rfl
  | succ n ih =>
    intro ρ l4
    rw [M_writeWord_33, M_writeWord_33]
    simp only [mg_259, mg_260, mg_261, mg_262, mg_263, mg_264, mg_265, mg_266, mg_267, mg_268, mg_269, mg_270, mg_271, mg_272, mg_273, mg_274, mg_275, mg_276, mg_277, mg_278, mg_279, mg_280, fa_260, fa_261, fa_262, fa_263, fa_264, fa_265, fa_266, fa_267, fa_268, fa_269, fa_270, fa_271, fa_272, fa_273, fa_274, fa_275, fa_276, fa_277, fa_278, fa_279, fa_280, fs_260, fs_261, fs_262, fs_263, fs_264, fs_265, fs_266, fs_267, fs_268, fs_269, fs_270, fs_271, fs_272, fs_273, fs_274, fs_275, fs_276, fs_277, fs_278, fs_279, fs_280, fw_259, fz_259, bmap, mbind, mite, Option.map_some, Option.map_none, Option.bind_some, mgP, ih, fr_M_write]
theorem fr_M_writeWord_33 {μ ρ : Mem}  {l1 : Int}  {n : Nat} {l4 : Int} : M_writeWord_33 l1 n (mg μ ρ) l4 = (M_writeWord_33 l1 n ρ l4).map (mg μ) := fr_M_writeWord_33_x  _ _ _
theorem fr_M_writeWord_6_x {μ ρ : Mem}  {l1 : Int}  : ∀ (n : Nat) (l2 : Int), M_writeWord_6 (mg μ ρ) l1 n l2 = (M_writeWord_6 ρ l1 n l2).map (mg μ) := by
  intro n
  induction n with
  | zero => intro l2; rfl
  | succ n ih =>
    intro l2
    rw [M_writeWord_6, M_writeWord_6]
    simp only [mg_259, mg_260, mg_261, mg_262, mg_263, mg_264, mg_265, mg_266, mg_267, mg_268, mg_269, mg_270, mg_271, mg_272, mg_273, mg_274, mg_275, mg_276, mg_277, mg_278, mg_279, mg_280, fa_260, fa_261, fa_262, fa_263, fa_264, fa_265, fa_266, fa_267, fa_268, fa_269, fa_270, fa_271, fa_272, fa_273, fa_274, fa_275, fa_276, fa_277, fa_278, fa_279, fa_280, fs_260, fs_261, fs_262, fs_263, fs_264, fs_265, fs_266, fs_267, fs_268, fs_269, fs_270, fs_271, fs_272, fs_273, fs_274, fs_275, fs_276, fs_277, fs_278, fs_279, fs_280, fw_259, fz_259, bmap, mbind, mite, Option.map_some, Option.map_none, Option.bind_some, mgP, ih, fr_M_writeWord_33]
theorem fr_M_writeWord_6 {μ ρ : Mem}  {l1 : Int}  {n : Nat} {l2 : Int} : M_writeWord_6 (mg μ ρ) l1 n l2 = (M_writeWord_6 ρ l1 n l2).map (mg μ) := fr_M_writeWord_6_x  _ _
theorem fr_M_writeWord {μ ρ : Mem}  {a1 : Int}  : M_writeWord (mg μ ρ) a1 = (M_writeWord ρ a1).map (mg μ) := by
  unfold M_writeWord
  simp only [mg_259, mg_260, mg_261, mg_262, mg_263, mg_264, mg_265, mg_266, mg_267, mg_268, mg_269, mg_270, mg_271, mg_272, mg_273, mg_274, mg_275, mg_276, mg_277, mg_278, mg_279, mg_280, fa_260, fa_261, fa_262, fa_263, fa_264, fa_265, fa_266, fa_267, fa_268, fa_269, fa_270, fa_271, fa_272, fa_273, fa_274, fa_275, fa_276, fa_277, fa_278, fa_279, fa_280, fs_260, fs_261, fs_262, fs_263, fs_264, fs_265, fs_266, fs_267, fs_268, fs_269, fs_270, fs_271, fs_272, fs_273, fs_274, fs_275, fs_276, fs_277, fs_278, fs_279, fs_280, fw_259, fz_259, bmap, mbind, mite, Option.map_some, Option.map_none, Option.bind_some, mgP, fr_M_solid, fr_M_writeWord_6]
theorem fr_M_writeNumber_24_x {μ : Mem}  {l1 : Int}  : ∀ (n : Nat) (ρ : Mem) (l3 : Int), M_writeNumber_24 l1 n (mg μ ρ) l3 = (M_writeNumber_24 l1 n ρ l3).map (mg μ) := by
  intro n
  induction n with
  | zero => intro ρ l3; rfl
  | succ n ih =>
    intro ρ l3
    rw [M_writeNumber_24, M_writeNumber_24]
    simp only [mg_259, mg_260, mg_261, mg_262, mg_263, mg_264, mg_265, mg_266, mg_267, mg_268, mg_269, mg_270, mg_271, mg_272, mg_273, mg_274, mg_275, mg_276, mg_277, mg_278, mg_279, mg_280, fa_260, fa_261, fa_262, fa_263, fa_264, fa_265, fa_266, fa_267, fa_268, fa_269, fa_270, fa_271, fa_272, fa_273, fa_274, fa_275, fa_276, fa_277, fa_278, fa_279, fa_280, fs_260, fs_261, fs_262, fs_263, fs_264, fs_265, fs_266, fs_267, fs_268, fs_269, fs_270, fs_271, fs_272, fs_273, fs_274, fs_275, fs_276, fs_277, fs_278, fs_279, fs_280, fw_259, fz_259, bmap, mbind, mite, Option.map_some, Option.map_none, Option.bind_some, mgP, ih, fr_M_write]
theorem fr_M_writeNumber_24 {μ ρ : Mem}  {l1 : Int}  {n : Nat} {l3 : Int} : M_writeNumber_24 l1 n (mg μ ρ) l3 = (M_writeNumber_24 l1 n ρ l3).map (mg μ) := fr_M_writeNumber_24_x  _ _ _
theorem fr_M_writeNumber_6_x {μ ρ : Mem}  {l1 : Int}  : ∀ (n : Nat) (l2 : Int), M_writeNumber_6 (mg μ ρ) l1 n l2 = (M_writeNumber_6 ρ l1 n l2).map (mg μ) := by
  intro n
  induction n with
  | zero => intro l2; rfl
  | succ n ih =>
    intro l2
    rw [M_writeNumber_6, M_writeNumber_6]
    simp only [mg_259, mg_260, mg_261, mg_262, mg_263, mg_264, mg_265, mg_266, mg_267, mg_268, mg_269, mg_270, mg_271, mg_272, mg_273, mg_274, mg_275, mg_276, mg_277, mg_278, mg_279, mg_280, fa_260, fa_261, fa_262, fa_263, fa_264, fa_265, fa_266, fa_267, fa_268, fa_269, fa_270, fa_271, fa_272, fa_273, fa_274, fa_275, fa_276, fa_277, fa_278, fa_279, fa_280, fs_260, fs_261, fs_262, fs_263, fs_264, fs_265, fs_266, fs_267, fs_268, fs_269, fs_270, fs_271, fs_272, fs_273, fs_274, fs_275, fs_276, fs_277, fs_278, fs_279, fs_280, fw_259, fz_259, bmap, mbind, mite, Option.map_some, Option.map_none, Option.bind_some, mgP, ih, fr_M_writeNumber_24]
theorem fr_M_writeNumber_6 {μ ρ : Mem}  {l1 : Int}  {n : Nat} {l2 : Int} : M_writeNumber_6 (mg μ ρ) l1 n l2 = (M_writeNumber_6 ρ l1 n l2).map (mg μ) := fr_M_writeNumber_6_x  _ _
theorem fr_M_writeNumber {μ ρ : Mem}  {a1 : Int}  : M_writeNumber (mg μ ρ) a1 = (M_writeNumber ρ a1).map (mg μ) := by
  unfold M_writeNumber
  simp only [mg_259, mg_260, mg_261, mg_262, mg_263, mg_264, mg_265, mg_266, mg_267, mg_268, mg_269, mg_270, mg_271, mg_272, mg_273, mg_274, mg_275, mg_276, mg_277, mg_278, mg_279, mg_280, fa_260, fa_261, fa_262, fa_263, fa_264, fa_265, fa_266, fa_267, fa_268, fa_269, fa_270, fa_271, fa_272, fa_273, fa_274, fa_275, fa_276, fa_277, fa_278, fa_279, fa_280, fs_260, fs_261, fs_262, fs_263, fs_264, fs_265, fs_266, fs_267, fs_268, fs_269, fs_270, fs_271, fs_272, fs_273, fs_274, fs_275, fs_276, fs_277, fs_278, fs_279, fs_280, fw_259, fz_259, bmap, mbind, mite, Option.map_some, Option.map_none, Option.bind_some, mgP, fr_M_solid, fr_M_writeNumber_6]
theorem fr_M_pair {μ ρ : Mem}  {a1 : Int} {a2 : Int}  : M_pair (mg μ ρ) a1 a2 = (M_pair ρ a1 a2).map (mg μ) := by
  unfold M_pair
  simp only [mg_259, mg_260, mg_261, mg_262, mg_263, mg_264, mg_265, mg_266, mg_267, mg_268, mg_269, mg_270, mg_271, mg_272, mg_273, mg_274, mg_275, mg_276, mg_277, mg_278, mg_279, mg_280, fa_260, fa_261, fa_262, fa_263, fa_264, fa_265, fa_266, fa_267, fa_268, fa_269, fa_270, fa_271, fa_272, fa_273, fa_274, fa_275, fa_276, fa_277, fa_278, fa_279, fa_280, fs_260, fs_261, fs_262, fs_263, fs_264, fs_265, fs_266, fs_267, fs_268, fs_269, fs_270, fs_271, fs_272, fs_273, fs_274, fs_275, fs_276, fs_277, fs_278, fs_279, fs_280, fw_259, fz_259, bmap, mbind, mite, Option.map_some, Option.map_none, Option.bind_some, mgP, fr_M_writeNumber, fr_M_writeWord]
theorem fr_M_writeSign {μ ρ : Mem}  {a1 : Int}  : M_writeSign (mg μ ρ) a1 = (M_writeSign ρ a1).map (mg μ) := by
  unfold M_writeSign
  simp only [mg_259, mg_260, mg_261, mg_262, mg_263, mg_264, mg_265, mg_266, mg_267, mg_268, mg_269, mg_270, mg_271, mg_272, mg_273, mg_274, mg_275, mg_276, mg_277, mg_278, mg_279, mg_280, fa_260, fa_261, fa_262, fa_263, fa_264, fa_265, fa_266, fa_267, fa_268, fa_269, fa_270, fa_271, fa_272, fa_273, fa_274, fa_275, fa_276, fa_277, fa_278, fa_279, fa_280, fs_260, fs_261, fs_262, fs_263, fs_264, fs_265, fs_266, fs_267, fs_268, fs_269, fs_270, fs_271, fs_272, fs_273, fs_274, fs_275, fs_276, fs_277, fs_278, fs_279, fs_280, fw_259, fz_259, bmap, mbind, mite, Option.map_some, Option.map_none, Option.bind_some, mgP, fr_M_write]
theorem fr_M_ends {μ ρ : Mem}    : M_ends (mg μ ρ) = (M_ends ρ).map (mg μ) := by
  unfold M_ends
  simp only [mg_259, mg_260, mg_261, mg_262, mg_263, mg_264, mg_265, mg_266, mg_267, mg_268, mg_269, mg_270, mg_271, mg_272, mg_273, mg_274, mg_275, mg_276, mg_277, mg_278, mg_279, mg_280, fa_260, fa_261, fa_262, fa_263, fa_264, fa_265, fa_266, fa_267, fa_268, fa_269, fa_270, fa_271, fa_272, fa_273, fa_274, fa_275, fa_276, fa_277, fa_278, fa_279, fa_280, fs_260, fs_261, fs_262, fs_263, fs_264, fs_265, fs_266, fs_267, fs_268, fs_269, fs_270, fs_271, fs_272, fs_273, fs_274, fs_275, fs_276, fs_277, fs_278, fs_279, fs_280, fw_259, fz_259, bmap, mbind, mite, Option.map_some, Option.map_none, Option.bind_some, mgP, fr_M_write, fr_M_writeSign]
theorem fr_M_savePatch_127 {μ ρ : Mem}    : M_savePatch_127 (mg μ ρ) = (M_savePatch_127 ρ).map (mg μ) := by
  unfold M_savePatch_127
  simp only [mg_259, mg_260, mg_261, mg_262, mg_263, mg_264, mg_265, mg_266, mg_267, mg_268, mg_269, mg_270, mg_271, mg_272, mg_273, mg_274, mg_275, mg_276, mg_277, mg_278, mg_279, mg_280, fa_260, fa_261, fa_262, fa_263, fa_264, fa_265, fa_266, fa_267, fa_268, fa_269, fa_270, fa_271, fa_272, fa_273, fa_274, fa_275, fa_276, fa_277, fa_278, fa_279, fa_280, fs_260, fs_261, fs_262, fs_263, fs_264, fs_265, fs_266, fs_267, fs_268, fs_269, fs_270, fs_271, fs_272, fs_273, fs_274, fs_275, fs_276, fs_277, fs_278, fs_279, fs_280, fw_259, fz_259, bmap, mbind, mite, Option.map_some, Option.map_none, Option.bind_some, mgP, fr_M_ends]
theorem fr_M_savePatch_109 {μ ρ : Mem}  {l2 : Int}  : M_savePatch_109 (mg μ ρ) l2 = (M_savePatch_109 ρ l2).map (mg μ) := by
  unfold M_savePatch_109
  simp only [mg_259, mg_260, mg_261, mg_262, mg_263, mg_264, mg_265, mg_266, mg_267, mg_268, mg_269, mg_270, mg_271, mg_272, mg_273, mg_274, mg_275, mg_276, mg_277, mg_278, mg_279, mg_280, fa_260, fa_261, fa_262, fa_263, fa_264, fa_265, fa_266, fa_267, fa_268, fa_269, fa_270, fa_271, fa_272, fa_273, fa_274, fa_275, fa_276, fa_277, fa_278, fa_279, fa_280, fs_260, fs_261, fs_262, fs_263, fs_264, fs_265, fs_266, fs_267, fs_268, fs_269, fs_270, fs_271, fs_272, fs_273, fs_274, fs_275, fs_276, fs_277, fs_278, fs_279, fs_280, fw_259, fz_259, bmap, mbind, mite, Option.map_some, Option.map_none, Option.bind_some, mgP, fr_M_savePatch_127, fr_M_writeWord]
theorem fr_M_savePatch_91 {μ ρ : Mem}  {l2 : Int}  : M_savePatch_91 (mg μ ρ) l2 = (M_savePatch_91 ρ l2).map (mg μ) := by
  unfold M_savePatch_91
  simp only [mg_259, mg_260, mg_261, mg_262, mg_263, mg_264, mg_265, mg_266, mg_267, mg_268, mg_269, mg_270, mg_271, mg_272, mg_273, mg_274, mg_275, mg_276, mg_277, mg_278, mg_279, mg_280, fa_260, fa_261, fa_262, fa_263, fa_264, fa_265, fa_266, fa_267, fa_268, fa_269, fa_270, fa_271, fa_272, fa_273, fa_274, fa_275, fa_276, fa_277, fa_278, fa_279, fa_280, fs_260, fs_261, fs_262, fs_263, fs_264, fs_265, fs_266, fs_267, fs_268, fs_269, fs_270, fs_271, fs_272, fs_273, fs_274, fs_275, fs_276, fs_277, fs_278, fs_279, fs_280, fw_259, fz_259, bmap, mbind, mite, Option.map_some, Option.map_none, Option.bind_some, mgP, fr_M_savePatch_109, fr_M_writeWord]
theorem fr_M_savePatch_66 {μ ρ : Mem}  {l2 : Int}  : M_savePatch_66 (mg μ ρ) l2 = (M_savePatch_66 ρ l2).map (mg μ) := by
  unfold M_savePatch_66
  simp only [mg_259, mg_260, mg_261, mg_262, mg_263, mg_264, mg_265, mg_266, mg_267, mg_268, mg_269, mg_270, mg_271, mg_272, mg_273, mg_274, mg_275, mg_276, mg_277, mg_278, mg_279, mg_280, fa_260, fa_261, fa_262, fa_263, fa_264, fa_265, fa_266, fa_267, fa_268, fa_269, fa_270, fa_271, fa_272, fa_273, fa_274, fa_275, fa_276, fa_277, fa_278, fa_279, fa_280, fs_260, fs_261, fs_262, fs_263, fs_264, fs_265, fs_266, fs_267, fs_268, fs_269, fs_270, fs_271, fs_272, fs_273, fs_274, fs_275, fs_276, fs_277, fs_278, fs_279, fs_280, fw_259, fz_259, bmap, mbind, mite, Option.map_some, Option.map_none, Option.bind_some, mgP, fr_M_pair, fr_M_savePatch_91]
theorem fr_M_savePatch {μ ρ : Mem}  {a1 : Int}  : M_savePatch (mg μ ρ) a1 = (M_savePatch ρ a1).map (mg μ) := by
  unfold M_savePatch
  simp only [mg_259, mg_260, mg_261, mg_262, mg_263, mg_264, mg_265, mg_266, mg_267, mg_268, mg_269, mg_270, mg_271, mg_272, mg_273, mg_274, mg_275, mg_276, mg_277, mg_278, mg_279, mg_280, fa_260, fa_261, fa_262, fa_263, fa_264, fa_265, fa_266, fa_267, fa_268, fa_269, fa_270, fa_271, fa_272, fa_273, fa_274, fa_275, fa_276, fa_277, fa_278, fa_279, fa_280, fs_260, fs_261, fs_262, fs_263, fs_264, fs_265, fs_266, fs_267, fs_268, fs_269, fs_270, fs_271, fs_272, fs_273, fs_274, fs_275, fs_276, fs_277, fs_278, fs_279, fs_280, fw_259, fz_259, bmap, mbind, mite, Option.map_some, Option.map_none, Option.bind_some, mgP, fr_M_pair, fr_M_savePatch_66, fr_M_writeWord]
theorem fr_M_units_23 {μ ρ : Mem} {K2 J2 : Mem → Int → Option (Mem)} {l1 : Int} {l2 : Int} (hK2 : ∀ (ρ : Mem) (l2 : Int), K2 (mg μ ρ) l2 = (J2 ρ l2).map (mg μ)) : M_units_23 K2 (mg μ ρ) l1 l2 = (M_units_23 J2 ρ l1 l2).map (mg μ) := by
  unfold M_units_23
  simp only [mg_259, mg_260, mg_261, mg_262, mg_263, mg_264, mg_265, mg_266, mg_267, mg_268, mg_269, mg_270, mg_271, mg_272, mg_273, mg_274, mg_275, mg_276, mg_277, mg_278, mg_279, mg_280, fa_260, fa_261, fa_262, fa_263, fa_264, fa_265, fa_266, fa_267, fa_268, fa_269, fa_270, fa_271, fa_272, fa_273, fa_274, fa_275, fa_276, fa_277, fa_278, fa_279, fa_280, fs_260, fs_261, fs_262, fs_263, fs_264, fs_265, fs_266, fs_267, fs_268, fs_269, fs_270, fs_271, fs_272, fs_273, fs_274, fs_275, fs_276, fs_277, fs_278, fs_279, fs_280, fw_259, fz_259, bmap, mbind, mite, Option.map_some, Option.map_none, Option.bind_some, mgP, hK2, fr_M_writeNumber]
theorem fr_M_units_2_x {μ : Mem}  {l1 : Int}  : ∀ (n : Nat) (ρ : Mem) (l2 : Int), M_units_2 l1 n (mg μ ρ) l2 = (M_units_2 l1 n ρ l2).map (mg μ) := by
  intro n
  induction n with
  | zero => intro ρ l2; rfl
  | succ n ih =>
    intro ρ l2
    rw [M_units_2, M_units_2]
    simp only [mg_259, mg_260, mg_261, mg_262, mg_263, mg_264, mg_265, mg_266, mg_267, mg_268, mg_269, mg_270, mg_271, mg_272, mg_273, mg_274, mg_275, mg_276, mg_277, mg_278, mg_279, mg_280, fa_260, fa_261, fa_262, fa_263, fa_264, fa_265, fa_266, fa_267, fa_268, fa_269, fa_270, fa_271, fa_272, fa_273, fa_274, fa_275, fa_276, fa_277, fa_278, fa_279, fa_280, fs_260, fs_261, fs_262, fs_263, fs_264, fs_265, fs_266, fs_267, fs_268, fs_269, fs_270, fs_271, fs_272, fs_273, fs_274, fs_275, fs_276, fs_277, fs_278, fs_279, fs_280, fw_259, fz_259, bmap, mbind, mite, Option.map_some, Option.map_none, Option.bind_some, mgP, ih, fr_M_units_23 ih, fr_M_writeSign]
theorem fr_M_units_2 {μ ρ : Mem}  {l1 : Int}  {n : Nat} {l2 : Int} : M_units_2 l1 n (mg μ ρ) l2 = (M_units_2 l1 n ρ l2).map (mg μ) := fr_M_units_2_x  _ _ _
theorem fr_M_units {μ ρ : Mem}  {a1 : Int}  : M_units (mg μ ρ) a1 = (M_units ρ a1).map (mg μ) := by
  unfold M_units
  simp only [mg_259, mg_260, mg_261, mg_262, mg_263, mg_264, mg_265, mg_266, mg_267, mg_268, mg_269, mg_270, mg_271, mg_272, mg_273, mg_274, mg_275, mg_276, mg_277, mg_278, mg_279, mg_280, fa_260, fa_261, fa_262, fa_263, fa_264, fa_265, fa_266, fa_267, fa_268, fa_269, fa_270, fa_271, fa_272, fa_273, fa_274, fa_275, fa_276, fa_277, fa_278, fa_279, fa_280, fs_260, fs_261, fs_262, fs_263, fs_264, fs_265, fs_266, fs_267, fs_268, fs_269, fs_270, fs_271, fs_272, fs_273, fs_274, fs_275, fs_276, fs_277, fs_278, fs_279, fs_280, fw_259, fz_259, bmap, mbind, mite, Option.map_some, Option.map_none, Option.bind_some, mgP, fr_M_units_2]
theorem fr_M_levelsIn_4_x {μ ρ : Mem}  {l1 : Int}  : ∀ (n : Nat) (l2 : Int) (l3 : Int), M_levelsIn_4 (mg μ ρ) l1 n l2 l3 = M_levelsIn_4 ρ l1 n l2 l3 := by
  intro n
  induction n with
  | zero => intro l2 l3; rfl
  | succ n ih =>
    intro l2 l3
    rw [M_levelsIn_4, M_levelsIn_4]
    simp only [mg_259, mg_260, mg_261, mg_262, mg_263, mg_264, mg_265, mg_266, mg_267, mg_268, mg_269, mg_270, mg_271, mg_272, mg_273, mg_274, mg_275, mg_276, mg_277, mg_278, mg_279, mg_280, fa_260, fa_261, fa_262, fa_263, fa_264, fa_265, fa_266, fa_267, fa_268, fa_269, fa_270, fa_271, fa_272, fa_273, fa_274, fa_275, fa_276, fa_277, fa_278, fa_279, fa_280, fs_260, fs_261, fs_262, fs_263, fs_264, fs_265, fs_266, fs_267, fs_268, fs_269, fs_270, fs_271, fs_272, fs_273, fs_274, fs_275, fs_276, fs_277, fs_278, fs_279, fs_280, fw_259, fz_259, bmap, mbind, mite, Option.map_some, Option.map_none, Option.bind_some, mgP, ih]
theorem fr_M_levelsIn_4 {μ ρ : Mem}  {l1 : Int}  {n : Nat} {l2 : Int} {l3 : Int} : M_levelsIn_4 (mg μ ρ) l1 n l2 l3 = M_levelsIn_4 ρ l1 n l2 l3 := fr_M_levelsIn_4_x  _ _ _
theorem fr_M_levelsIn {μ ρ : Mem}  {a1 : Int}  : M_levelsIn (mg μ ρ) a1 = M_levelsIn ρ a1 := by
  unfold M_levelsIn
  simp only [mg_259, mg_260, mg_261, mg_262, mg_263, mg_264, mg_265, mg_266, mg_267, mg_268, mg_269, mg_270, mg_271, mg_272, mg_273, mg_274, mg_275, mg_276, mg_277, mg_278, mg_279, mg_280, fa_260, fa_261, fa_262, fa_263, fa_264, fa_265, fa_266, fa_267, fa_268, fa_269, fa_270, fa_271, fa_272, fa_273, fa_274, fa_275, fa_276, fa_277, fa_278, fa_279, fa_280, fs_260, fs_261, fs_262, fs_263, fs_264, fs_265, fs_266, fs_267, fs_268, fs_269, fs_270, fs_271, fs_272, fs_273, fs_274, fs_275, fs_276, fs_277, fs_278, fs_279, fs_280, fw_259, fz_259, bmap, mbind, mite, Option.map_some, Option.map_none, Option.bind_some, mgP, fr_M_levelsIn_4]
theorem fr_M_savePalette_35_x {μ : Mem}  {l2 : Int}  : ∀ (n : Nat) (ρ : Mem) (l3 : Int), M_savePalette_35 l2 n (mg μ ρ) l3 = (M_savePalette_35 l2 n ρ l3).map (mg μ) := by
  intro n
  induction n with
  | zero => intro ρ l3; rfl
  | succ n ih =>
    intro ρ l3
    rw [M_savePalette_35, M_savePalette_35]
    simp only [mg_259, mg_260, mg_261, mg_262, mg_263, mg_264, mg_265, mg_266, mg_267, mg_268, mg_269, mg_270, mg_271, mg_272, mg_273, mg_274, mg_275, mg_276, mg_277, mg_278, mg_279, mg_280, fa_260, fa_261, fa_262, fa_263, fa_264, fa_265, fa_266, fa_267, fa_268, fa_269, fa_270, fa_271, fa_272, fa_273, fa_274, fa_275, fa_276, fa_277, fa_278, fa_279, fa_280, fs_260, fs_261, fs_262, fs_263, fs_264, fs_265, fs_266, fs_267, fs_268, fs_269, fs_270, fs_271, fs_272, fs_273, fs_274, fs_275, fs_276, fs_277, fs_278, fs_279, fs_280, fw_259, fz_259, bmap, mbind, mite, Option.map_some, Option.map_none, Option.bind_some, mgP, ih, fr_M_ends, fr_M_pair]
theorem fr_M_savePalette_35 {μ ρ : Mem}  {l2 : Int}  {n : Nat} {l3 : Int} : M_savePalette_35 l2 n (mg μ ρ) l3 = (M_savePalette_35 l2 n ρ l3).map (mg μ) := fr_M_savePalette_35_x  _ _ _
theorem fr_M_savePalette {μ ρ : Mem}  {a1 : Int}  : M_savePalette (mg μ ρ) a1 = (M_savePalette ρ a1).map (mg μ) := by
  unfold M_savePalette
  simp only [mg_259, mg_260, mg_261, mg_262, mg_263, mg_264, mg_265, mg_266, mg_267, mg_268, mg_269, mg_270, mg_271, mg_272, mg_273, mg_274, mg_275, mg_276, mg_277, mg_278, mg_279, mg_280, fa_260, fa_261, fa_262, fa_263, fa_264, fa_265, fa_266, fa_267, fa_268, fa_269, fa_270, fa_271, fa_272, fa_273, fa_274, fa_275, fa_276, fa_277, fa_278, fa_279, fa_280, fs_260, fs_261, fs_262, fs_263, fs_264, fs_265, fs_266, fs_267, fs_268, fs_269, fs_270, fs_271, fs_272, fs_273, fs_274, fs_275, fs_276, fs_277, fs_278, fs_279, fs_280, fw_259, fz_259, bmap, mbind, mite, Option.map_some, Option.map_none, Option.bind_some, mgP, fr_M_levelsIn, fr_M_pair, fr_M_savePalette_35, fr_M_writeSign]
theorem fr_M_saveSubs_35_x {μ : Mem}  {l1 : Int}  : ∀ (n : Nat) (ρ : Mem) (l2 : Int), M_saveSubs_35 l1 n (mg μ ρ) l2 = (M_saveSubs_35 l1 n ρ l2).map (mg μ) := by
  intro n
  induction n with
  | zero => intro ρ l2; rfl
  | succ n ih =>
    intro ρ l2
    rw [M_saveSubs_35, M_saveSubs_35]
    simp only [mg_259, mg_260, mg_261, mg_262, mg_263, mg_264, mg_265, mg_266, mg_267, mg_268, mg_269, mg_270, mg_271, mg_272, mg_273, mg_274, mg_275, mg_276, mg_277, mg_278, mg_279, mg_280, fa_260, fa_261, fa_262, fa_263, fa_264, fa_265, fa_266, fa_267, fa_268, fa_269, fa_270, fa_271, fa_272, fa_273, fa_274, fa_275, fa_276, fa_277, fa_278, fa_279, fa_280, fs_260, fs_261, fs_262, fs_263, fs_264, fs_265, fs_266, fs_267, fs_268, fs_269, fs_270, fs_271, fs_272, fs_273, fs_274, fs_275, fs_276, fs_277, fs_278, fs_279, fs_280, fw_259, fz_259, bmap, mbind, mite, Option.map_some, Option.map_none, Option.bind_some, mgP, ih, fr_M_ends, fr_M_pair, fr_M_writeNumber, fr_M_writeSign]
theorem fr_M_saveSubs_35 {μ ρ : Mem}  {l1 : Int}  {n : Nat} {l2 : Int} : M_saveSubs_35 l1 n (mg μ ρ) l2 = (M_saveSubs_35 l1 n ρ l2).map (mg μ) := fr_M_saveSubs_35_x  _ _ _
theorem fr_M_saveSubs {μ ρ : Mem}  {a1 : Int}  : M_saveSubs (mg μ ρ) a1 = (M_saveSubs ρ a1).map (mg μ) := by
  unfold M_saveSubs
  simp only [mg_259, mg_260, mg_261, mg_262, mg_263, mg_264, mg_265, mg_266, mg_267, mg_268, mg_269, mg_270, mg_271, mg_272, mg_273, mg_274, mg_275, mg_276, mg_277, mg_278, mg_279, mg_280, fa_260, fa_261, fa_262, fa_263, fa_264, fa_265, fa_266, fa_267, fa_268, fa_269, fa_270, fa_271, fa_272, fa_273, fa_274, fa_275, fa_276, fa_277, fa_278, fa_279, fa_280, fs_260, fs_261, fs_262, fs_263, fs_264, fs_265, fs_266, fs_267, fs_268, fs_269, fs_270, fs_271, fs_272, fs_273, fs_274, fs_275, fs_276, fs_277, fs_278, fs_279, fs_280, fw_259, fz_259, bmap, mbind, mite, Option.map_some, Option.map_none, Option.bind_some, mgP, fr_M_ends, fr_M_pair, fr_M_saveSubs_35, fr_M_writeWord]
theorem fr_M_saveWave {μ ρ : Mem}  {a1 : Int}  : M_saveWave (mg μ ρ) a1 = (M_saveWave ρ a1).map (mg μ) := by
  unfold M_saveWave
  simp only [mg_259, mg_260, mg_261, mg_262, mg_263, mg_264, mg_265, mg_266, mg_267, mg_268, mg_269, mg_270, mg_271, mg_272, mg_273, mg_274, mg_275, mg_276, mg_277, mg_278, mg_279, mg_280, fa_260, fa_261, fa_262, fa_263, fa_264, fa_265, fa_266, fa_267, fa_268, fa_269, fa_270, fa_271, fa_272, fa_273, fa_274, fa_275, fa_276, fa_277, fa_278, fa_279, fa_280, fs_260, fs_261, fs_262, fs_263, fs_264, fs_265, fs_266, fs_267, fs_268, fs_269, fs_270, fs_271, fs_272, fs_273, fs_274, fs_275, fs_276, fs_277, fs_278, fs_279, fs_280, fw_259, fz_259, bmap, mbind, mite, Option.map_some, Option.map_none, Option.bind_some, mgP, fr_M_ends, fr_M_pair, fr_M_units, fr_M_writeSign, fr_M_writeWord]
theorem fr_M_saveChanges_9_x {μ : Mem}  {l2 : Int}  : ∀ (n : Nat) (ρ : Mem) (l3 : Int), M_saveChanges_9 l2 n (mg μ ρ) l3 = (M_saveChanges_9 l2 n ρ l3).map (mg μ) := by
  intro n
  induction n with
  | zero => intro ρ l3; rfl
  | succ n ih =>
    intro ρ l3
    rw [M_saveChanges_9, M_saveChanges_9]
    simp only [mg_259, mg_260, mg_261, mg_262, mg_263, mg_264, mg_265, mg_266, mg_267, mg_268, mg_269, mg_270, mg_271, mg_272, mg_273, mg_274, mg_275, mg_276, mg_277, mg_278, mg_279, mg_280, fa_260, fa_261, fa_262, fa_263, fa_264, fa_265, fa_266, fa_267, fa_268, fa_269, fa_270, fa_271, fa_272, fa_273, fa_274, fa_275, fa_276, fa_277, fa_278, fa_279, fa_280, fs_260, fs_261, fs_262, fs_263, fs_264, fs_265, fs_266, fs_267, fs_268, fs_269, fs_270, fs_271, fs_272, fs_273, fs_274, fs_275, fs_276, fs_277, fs_278, fs_279, fs_280, fw_259, fz_259, bmap, mbind, mite, Option.map_some, Option.map_none, Option.bind_some, mgP, ih, fr_M_ends, fr_M_pair, fr_M_writeNumber, fr_M_writeWord]
theorem fr_M_saveChanges_9 {μ ρ : Mem}  {l2 : Int}  {n : Nat} {l3 : Int} : M_saveChanges_9 l2 n (mg μ ρ) l3 = (M_saveChanges_9 l2 n ρ l3).map (mg μ) := fr_M_saveChanges_9_x  _ _ _
theorem fr_M_saveChanges {μ ρ : Mem}  {a1 : Int} {a2 : Int}  : M_saveChanges (mg μ ρ) a1 a2 = (M_saveChanges ρ a1 a2).map (mg μ) := by
  unfold M_saveChanges
  simp only [mg_259, mg_260, mg_261, mg_262, mg_263, mg_264, mg_265, mg_266, mg_267, mg_268, mg_269, mg_270, mg_271, mg_272, mg_273, mg_274, mg_275, mg_276, mg_277, mg_278, mg_279, mg_280, fa_260, fa_261, fa_262, fa_263, fa_264, fa_265, fa_266, fa_267, fa_268, fa_269, fa_270, fa_271, fa_272, fa_273, fa_274, fa_275, fa_276, fa_277, fa_278, fa_279, fa_280, fs_260, fs_261, fs_262, fs_263, fs_264, fs_265, fs_266, fs_267, fs_268, fs_269, fs_270, fs_271, fs_272, fs_273, fs_274, fs_275, fs_276, fs_277, fs_278, fs_279, fs_280, fw_259, fz_259, bmap, mbind, mite, Option.map_some, Option.map_none, Option.bind_some, mgP, fr_M_saveChanges_9, fr_M_writeNumber]
theorem fr_M_saveCue_177_x {μ : Mem}  {l3 : Int}  : ∀ (n : Nat) (ρ : Mem) (l4 : Int), M_saveCue_177 l3 n (mg μ ρ) l4 = (M_saveCue_177 l3 n ρ l4).map (mg μ) := by
  intro n
  induction n with
  | zero => intro ρ l4; rfl
  | succ n ih =>
    intro ρ l4
    rw [M_saveCue_177, M_saveCue_177]
    simp only [mg_259, mg_260, mg_261, mg_262, mg_263, mg_264, mg_265, mg_266, mg_267, mg_268, mg_269, mg_270, mg_271, mg_272, mg_273, mg_274, mg_275, mg_276, mg_277, mg_278, mg_279, mg_280, fa_260, fa_261, fa_262, fa_263, fa_264, fa_265, fa_266, fa_267, fa_268, fa_269, fa_270, fa_271, fa_272, fa_273, fa_274, fa_275, fa_276, fa_277, fa_278, fa_279, fa_280, fs_260, fs_261, fs_262, fs_263, fs_264, fs_265, fs_266, fs_267, fs_268, fs_269, fs_270, fs_271, fs_272, fs_273, fs_274, fs_275, fs_276, fs_277, fs_278, fs_279, fs_280, fw_259, fz_259, bmap, mbind, mite, Option.map_some, Option.map_none, Option.bind_some, mgP, ih, fr_M_ends, fr_M_levelsIn, fr_M_saveChanges, fr_M_writeWord]
theorem fr_M_saveCue_177 {μ ρ : Mem}  {l3 : Int}  {n : Nat} {l4 : Int} : M_saveCue_177 l3 n (mg μ ρ) l4 = (M_saveCue_177 l3 n ρ l4).map (mg μ) := fr_M_saveCue_177_x  _ _ _
theorem fr_M_saveCue_140 {μ ρ : Mem}  {l1 : Int} {l2 : Int}  : M_saveCue_140 (mg μ ρ) l1 l2 = (M_saveCue_140 ρ l1 l2).map (mg μ) := by
  unfold M_saveCue_140
  simp only [mg_259, mg_260, mg_261, mg_262, mg_263, mg_264, mg_265, mg_266, mg_267, mg_268, mg_269, mg_270, mg_271, mg_272, mg_273, mg_274, mg_275, mg_276, mg_277, mg_278, mg_279, mg_280, fa_260, fa_261, fa_262, fa_263, fa_264, fa_265, fa_266, fa_267, fa_268, fa_269, fa_270, fa_271, fa_272, fa_273, fa_274, fa_275, fa_276, fa_277, fa_278, fa_279, fa_280, fs_260, fs_261, fs_262, fs_263, fs_264, fs_265, fs_266, fs_267, fs_268, fs_269, fs_270, fs_271, fs_272, fs_273, fs_274, fs_275, fs_276, fs_277, fs_278, fs_279, fs_280, fw_259, fz_259, bmap, mbind, mite, Option.map_some, Option.map_none, Option.bind_some, mgP, fr_M_ends, fr_M_pair, fr_M_saveCue_177, fr_M_valuesFrom]
theorem fr_M_saveCue_99 {μ ρ : Mem}  {l1 : Int} {l2 : Int}  : M_saveCue_99 (mg μ ρ) l1 l2 = (M_saveCue_99 ρ l1 l2).map (mg μ) := by
  unfold M_saveCue_99
  simp only [mg_259, mg_260, mg_261, mg_262, mg_263, mg_264, mg_265, mg_266, mg_267, mg_268, mg_269, mg_270, mg_271, mg_272, mg_273, mg_274, mg_275, mg_276, mg_277, mg_278, mg_279, mg_280, fa_260, fa_261, fa_262, fa_263, fa_264, fa_265, fa_266, fa_267, fa_268, fa_269, fa_270, fa_271, fa_272, fa_273, fa_274, fa_275, fa_276, fa_277, fa_278, fa_279, fa_280, fs_260, fs_261, fs_262, fs_263, fs_264, fs_265, fs_266, fs_267, fs_268, fs_269, fs_270, fs_271, fs_272, fs_273, fs_274, fs_275, fs_276, fs_277, fs_278, fs_279, fs_280, fw_259, fz_259, bmap, mbind, mite, Option.map_some, Option.map_none, Option.bind_some, mgP, fr_M_pair, fr_M_saveCue_140]
theorem fr_M_saveCue_15_x {μ : Mem}  {l1 : Int} {l2 : Int}  : ∀ (n : Nat) (ρ : Mem) (l3 : Int), M_saveCue_15 l1 l2 n (mg μ ρ) l3 = (M_saveCue_15 l1 l2 n ρ l3).map (mg μ) := by
  intro n
  induction n with
  | zero => intro ρ l3; rfl
  | succ n ih =>
    intro ρ l3
    rw [M_saveCue_15, M_saveCue_15]
    simp only [mg_259, mg_260, mg_261, mg_262, mg_263, mg_264, mg_265, mg_266, mg_267, mg_268, mg_269, mg_270, mg_271, mg_272, mg_273, mg_274, mg_275, mg_276, mg_277, mg_278, mg_279, mg_280, fa_260, fa_261, fa_262, fa_263, fa_264, fa_265, fa_266, fa_267, fa_268, fa_269, fa_270, fa_271, fa_272, fa_273, fa_274, fa_275, fa_276, fa_277, fa_278, fa_279, fa_280, fs_260, fs_261, fs_262, fs_263, fs_264, fs_265, fs_266, fs_267, fs_268, fs_269, fs_270, fs_271, fs_272, fs_273, fs_274, fs_275, fs_276, fs_277, fs_278, fs_279, fs_280, fw_259, fz_259, bmap, mbind, mite, Option.map_some, Option.map_none, Option.bind_some, mgP, ih, fr_M_pair, fr_M_saveCue_99]
theorem fr_M_saveCue_15 {μ ρ : Mem}  {l1 : Int} {l2 : Int}  {n : Nat} {l3 : Int} : M_saveCue_15 l1 l2 n (mg μ ρ) l3 = (M_saveCue_15 l1 l2 n ρ l3).map (mg μ) := fr_M_saveCue_15_x  _ _ _
theorem fr_M_saveCue {μ ρ : Mem}  {a1 : Int}  : M_saveCue (mg μ ρ) a1 = (M_saveCue ρ a1).map (mg μ) := by
  unfold M_saveCue
  simp only [mg_259, mg_260, mg_261, mg_262, mg_263, mg_264, mg_265, mg_266, mg_267, mg_268, mg_269, mg_270, mg_271, mg_272, mg_273, mg_274, mg_275, mg_276, mg_277, mg_278, mg_279, mg_280, fa_260, fa_261, fa_262, fa_263, fa_264, fa_265, fa_266, fa_267, fa_268, fa_269, fa_270, fa_271, fa_272, fa_273, fa_274, fa_275, fa_276, fa_277, fa_278, fa_279, fa_280, fs_260, fs_261, fs_262, fs_263, fs_264, fs_265, fs_266, fs_267, fs_268, fs_269, fs_270, fs_271, fs_272, fs_273, fs_274, fs_275, fs_276, fs_277, fs_278, fs_279, fs_280, fw_259, fz_259, bmap, mbind, mite, Option.map_some, Option.map_none, Option.bind_some, mgP, fr_M_cueRow, fr_M_pair, fr_M_saveCue_15]
theorem fr_M_savePark {μ ρ : Mem}  {a1 : Int}  : M_savePark (mg μ ρ) a1 = (M_savePark ρ a1).map (mg μ) := by
  unfold M_savePark
  simp only [mg_259, mg_260, mg_261, mg_262, mg_263, mg_264, mg_265, mg_266, mg_267, mg_268, mg_269, mg_270, mg_271, mg_272, mg_273, mg_274, mg_275, mg_276, mg_277, mg_278, mg_279, mg_280, fa_260, fa_261, fa_262, fa_263, fa_264, fa_265, fa_266, fa_267, fa_268, fa_269, fa_270, fa_271, fa_272, fa_273, fa_274, fa_275, fa_276, fa_277, fa_278, fa_279, fa_280, fs_260, fs_261, fs_262, fs_263, fs_264, fs_265, fs_266, fs_267, fs_268, fs_269, fs_270, fs_271, fs_272, fs_273, fs_274, fs_275, fs_276, fs_277, fs_278, fs_279, fs_280, fw_259, fz_259, bmap, mbind, mite, Option.map_some, Option.map_none, Option.bind_some, mgP, fr_M_ends, fr_M_pair, fr_M_writeNumber, fr_M_writeSign]
theorem fr_M_saveEvent {μ ρ : Mem}  {a1 : Int}  : M_saveEvent (mg μ ρ) a1 = (M_saveEvent ρ a1).map (mg μ) := by
  unfold M_saveEvent
  simp only [mg_259, mg_260, mg_261, mg_262, mg_263, mg_264, mg_265, mg_266, mg_267, mg_268, mg_269, mg_270, mg_271, mg_272, mg_273, mg_274, mg_275, mg_276, mg_277, mg_278, mg_279, mg_280, fa_260, fa_261, fa_262, fa_263, fa_264, fa_265, fa_266, fa_267, fa_268, fa_269, fa_270, fa_271, fa_272, fa_273, fa_274, fa_275, fa_276, fa_277, fa_278, fa_279, fa_280, fs_260, fs_261, fs_262, fs_263, fs_264, fs_265, fs_266, fs_267, fs_268, fs_269, fs_270, fs_271, fs_272, fs_273, fs_274, fs_275, fs_276, fs_277, fs_278, fs_279, fs_280, fw_259, fz_259, bmap, mbind, mite, Option.map_some, Option.map_none, Option.bind_some, mgP, fr_M_ends, fr_M_pair, fr_M_writeNumber, fr_M_writeSign]
theorem fr_M_save_254_x {μ : Mem}    : ∀ (n : Nat) (ρ : Mem) (l1 : Int), M_save_254 n (mg μ ρ) l1 = (M_save_254 n ρ l1).map (mgP μ) := by
  intro n
  induction n with
  | zero => intro ρ l1; rfl
  | succ n ih =>
    intro ρ l1
    rw [M_save_254, M_save_254]
    simp only [mg_259, mg_260, mg_261, mg_262, mg_263, mg_264, mg_265, mg_266, mg_267, mg_268, mg_269, mg_270, mg_271, mg_272, mg_273, mg_274, mg_275, mg_276, mg_277, mg_278, mg_279, mg_280, fa_260, fa_261, fa_262, fa_263, fa_264, fa_265, fa_266, fa_267, fa_268, fa_269, fa_270, fa_271, fa_272, fa_273, fa_274, fa_275, fa_276, fa_277, fa_278, fa_279, fa_280, fs_260, fs_261, fs_262, fs_263, fs_264, fs_265, fs_266, fs_267, fs_268, fs_269, fs_270, fs_271, fs_272, fs_273, fs_274, fs_275, fs_276, fs_277, fs_278, fs_279, fs_280, fw_259, fz_259, bmap, mbind, mite, Option.map_some, Option.map_none, Option.bind_some, mgP, ih]
theorem fr_M_save_254 {μ ρ : Mem}    {n : Nat} {l1 : Int} : M_save_254 n (mg μ ρ) l1 = (M_save_254 n ρ l1).map (mgP μ) := fr_M_save_254_x  _ _ _
theorem fr_M_save_215_x {μ : Mem}    : ∀ (n : Nat) (ρ : Mem) (l1 : Int), M_save_215 n (mg μ ρ) l1 = (M_save_215 n ρ l1).map (mgP μ) := by
  intro n
  induction n with
  | zero => intro ρ l1; rfl
  | succ n ih =>
    intro ρ l1
    rw [M_save_215, M_save_215]
    simp only [mg_259, mg_260, mg_261, mg_262, mg_263, mg_264, mg_265, mg_266, mg_267, mg_268, mg_269, mg_270, mg_271, mg_272, mg_273, mg_274, mg_275, mg_276, mg_277, mg_278, mg_279, mg_280, fa_260, fa_261, fa_262, fa_263, fa_264, fa_265, fa_266, fa_267, fa_268, fa_269, fa_270, fa_271, fa_272, fa_273, fa_274, fa_275, fa_276, fa_277, fa_278, fa_279, fa_280, fs_260, fs_261, fs_262, fs_263, fs_264, fs_265, fs_266, fs_267, fs_268, fs_269, fs_270, fs_271, fs_272, fs_273, fs_274, fs_275, fs_276, fs_277, fs_278, fs_279, fs_280, fw_259, fz_259, bmap, mbind, mite, Option.map_some, Option.map_none, Option.bind_some, mgP, ih, fr_M_saveEvent, fr_M_save_254]
theorem fr_M_save_215 {μ ρ : Mem}    {n : Nat} {l1 : Int} : M_save_215 n (mg μ ρ) l1 = (M_save_215 n ρ l1).map (mgP μ) := fr_M_save_215_x  _ _ _
theorem fr_M_save_195_x {μ : Mem}    : ∀ (n : Nat) (ρ : Mem) (l1 : Int), M_save_195 n (mg μ ρ) l1 = (M_save_195 n ρ l1).map (mgP μ) := by
  intro n
  induction n with
  | zero => intro ρ l1; rfl
  | succ n ih =>
    intro ρ l1
    rw [M_save_195, M_save_195]
    simp only [mg_259, mg_260, mg_261, mg_262, mg_263, mg_264, mg_265, mg_266, mg_267, mg_268, mg_269, mg_270, mg_271, mg_272, mg_273, mg_274, mg_275, mg_276, mg_277, mg_278, mg_279, mg_280, fa_260, fa_261, fa_262, fa_263, fa_264, fa_265, fa_266, fa_267, fa_268, fa_269, fa_270, fa_271, fa_272, fa_273, fa_274, fa_275, fa_276, fa_277, fa_278, fa_279, fa_280, fs_260, fs_261, fs_262, fs_263, fs_264, fs_265, fs_266, fs_267, fs_268, fs_269, fs_270, fs_271, fs_272, fs_273, fs_274, fs_275, fs_276, fs_277, fs_278, fs_279, fs_280, fw_259, fz_259, bmap, mbind, mite, Option.map_some, Option.map_none, Option.bind_some, mgP, ih, fr_M_savePark, fr_M_save_215]
theorem fr_M_save_195 {μ ρ : Mem}    {n : Nat} {l1 : Int} : M_save_195 n (mg μ ρ) l1 = (M_save_195 n ρ l1).map (mgP μ) := fr_M_save_195_x  _ _ _
theorem fr_M_save_175_x {μ : Mem}    : ∀ (n : Nat) (ρ : Mem) (l1 : Int), M_save_175 n (mg μ ρ) l1 = (M_save_175 n ρ l1).map (mgP μ) := by
  intro n
  induction n with
  | zero => intro ρ l1; rfl
  | succ n ih =>
    intro ρ l1
    rw [M_save_175, M_save_175]
    simp only [mg_259, mg_260, mg_261, mg_262, mg_263, mg_264, mg_265, mg_266, mg_267, mg_268, mg_269, mg_270, mg_271, mg_272, mg_273, mg_274, mg_275, mg_276, mg_277, mg_278, mg_279, mg_280, fa_260, fa_261, fa_262, fa_263, fa_264, fa_265, fa_266, fa_267, fa_268, fa_269, fa_270, fa_271, fa_272, fa_273, fa_274, fa_275, fa_276, fa_277, fa_278, fa_279, fa_280, fs_260, fs_261, fs_262, fs_263, fs_264, fs_265, fs_266, fs_267, fs_268, fs_269, fs_270, fs_271, fs_272, fs_273, fs_274, fs_275, fs_276, fs_277, fs_278, fs_279, fs_280, fw_259, fz_259, bmap, mbind, mite, Option.map_some, Option.map_none, Option.bind_some, mgP, ih, fr_M_numberAbove, fr_M_saveCue, fr_M_save_195]
theorem fr_M_save_175 {μ ρ : Mem}    {n : Nat} {l1 : Int} : M_save_175 n (mg μ ρ) l1 = (M_save_175 n ρ l1).map (mgP μ) := fr_M_save_175_x  _ _ _
theorem fr_M_save_137_x {μ : Mem}    : ∀ (n : Nat) (ρ : Mem) (l1 : Int), M_save_137 n (mg μ ρ) l1 = (M_save_137 n ρ l1).map (mgP μ) := by
  intro n
  induction n with
  | zero => intro ρ l1; rfl
  | succ n ih =>
    intro ρ l1
    rw [M_save_137, M_save_137]
    simp only [mg_259, mg_260, mg_261, mg_262, mg_263, mg_264, mg_265, mg_266, mg_267, mg_268, mg_269, mg_270, mg_271, mg_272, mg_273, mg_274, mg_275, mg_276, mg_277, mg_278, mg_279, mg_280, fa_260, fa_261, fa_262, fa_263, fa_264, fa_265, fa_266, fa_267, fa_268, fa_269, fa_270, fa_271, fa_272, fa_273, fa_274, fa_275, fa_276, fa_277, fa_278, fa_279, fa_280, fs_260, fs_261, fs_262, fs_263, fs_264, fs_265, fs_266, fs_267, fs_268, fs_269, fs_270, fs_271, fs_272, fs_273, fs_274, fs_275, fs_276, fs_277, fs_278, fs_279, fs_280, fw_259, fz_259, bmap, mbind, mite, Option.map_some, Option.map_none, Option.bind_some, mgP, ih, fr_M_numberAbove, fr_M_saveWave, fr_M_save_175]
theorem fr_M_save_137 {μ ρ : Mem}    {n : Nat} {l1 : Int} : M_save_137 n (mg μ ρ) l1 = (M_save_137 n ρ l1).map (mgP μ) := fr_M_save_137_x  _ _ _
theorem fr_M_save_118_x {μ : Mem}    : ∀ (n : Nat) (ρ : Mem) (l1 : Int), M_save_118 n (mg μ ρ) l1 = (M_save_118 n ρ l1).map (mgP μ) := by
  intro n
  induction n with
  | zero => intro ρ l1; rfl
  | succ n ih =>
    intro ρ l1
    rw [M_save_118, M_save_118]
    simp only [mg_259, mg_260, mg_261, mg_262, mg_263, mg_264, mg_265, mg_266, mg_267, mg_268, mg_269, mg_270, mg_271, mg_272, mg_273, mg_274, mg_275, mg_276, mg_277, mg_278, mg_279, mg_280, fa_260, fa_261, fa_262, fa_263, fa_264, fa_265, fa_266, fa_267, fa_268, fa_269, fa_270, fa_271, fa_272, fa_273, fa_274, fa_275, fa_276, fa_277, fa_278, fa_279, fa_280, fs_260, fs_261, fs_262, fs_263, fs_264, fs_265, fs_266, fs_267, fs_268, fs_269, fs_270, fs_271, fs_272, fs_273, fs_274, fs_275, fs_276, fs_277, fs_278, fs_279, fs_280, fw_259, fz_259, bmap, mbind, mite, Option.map_some, Option.map_none, Option.bind_some, mgP, ih, fr_M_saveSubs, fr_M_save_137]
theorem fr_M_save_118 {μ ρ : Mem}    {n : Nat} {l1 : Int} : M_save_118 n (mg μ ρ) l1 = (M_save_118 n ρ l1).map (mgP μ) := fr_M_save_118_x  _ _ _
theorem fr_M_save_99_x {μ : Mem}    : ∀ (n : Nat) (ρ : Mem) (l1 : Int), M_save_99 n (mg μ ρ) l1 = (M_save_99 n ρ l1).map (mgP μ) := by
  intro n
  induction n with
  | zero => intro ρ l1; rfl
  | succ n ih =>
    intro ρ l1
    rw [M_save_99, M_save_99]
    simp only [mg_259, mg_260, mg_261, mg_262, mg_263, mg_264, mg_265, mg_266, mg_267, mg_268, mg_269, mg_270, mg_271, mg_272, mg_273, mg_274, mg_275, mg_276, mg_277, mg_278, mg_279, mg_280, fa_260, fa_261, fa_262, fa_263, fa_264, fa_265, fa_266, fa_267, fa_268, fa_269, fa_270, fa_271, fa_272, fa_273, fa_274, fa_275, fa_276, fa_277, fa_278, fa_279, fa_280, fs_260, fs_261, fs_262, fs_263, fs_264, fs_265, fs_266, fs_267, fs_268, fs_269, fs_270, fs_271, fs_272, fs_273, fs_274, fs_275, fs_276, fs_277, fs_278, fs_279, fs_280, fw_259, fz_259, bmap, mbind, mite, Option.map_some, Option.map_none, Option.bind_some, mgP, ih, fr_M_savePalette, fr_M_save_118]
theorem fr_M_save_99 {μ ρ : Mem}    {n : Nat} {l1 : Int} : M_save_99 n (mg μ ρ) l1 = (M_save_99 n ρ l1).map (mgP μ) := fr_M_save_99_x  _ _ _
theorem fr_M_save_39_x {μ : Mem}    : ∀ (n : Nat) (ρ : Mem) (l1 : Int), M_save_39 n (mg μ ρ) l1 = (M_save_39 n ρ l1).map (mgP μ) := by
  intro n
  induction n with
  | zero => intro ρ l1; rfl
  | succ n ih =>
    intro ρ l1
    rw [M_save_39, M_save_39]
    simp only [mg_259, mg_260, mg_261, mg_262, mg_263, mg_264, mg_265, mg_266, mg_267, mg_268, mg_269, mg_270, mg_271, mg_272, mg_273, mg_274, mg_275, mg_276, mg_277, mg_278, mg_279, mg_280, fa_260, fa_261, fa_262, fa_263, fa_264, fa_265, fa_266, fa_267, fa_268, fa_269, fa_270, fa_271, fa_272, fa_273, fa_274, fa_275, fa_276, fa_277, fa_278, fa_279, fa_280, fs_260, fs_261, fs_262, fs_263, fs_264, fs_265, fs_266, fs_267, fs_268, fs_269, fs_270, fs_271, fs_272, fs_273, fs_274, fs_275, fs_276, fs_277, fs_278, fs_279, fs_280, fw_259, fz_259, bmap, mbind, mite, Option.map_some, Option.map_none, Option.bind_some, mgP, ih, fr_M_ends, fr_M_pair, fr_M_save_99, fr_M_units, fr_M_writeSign]
theorem fr_M_save_39 {μ ρ : Mem}    {n : Nat} {l1 : Int} : M_save_39 n (mg μ ρ) l1 = (M_save_39 n ρ l1).map (mgP μ) := fr_M_save_39_x  _ _ _
theorem fr_M_save_12_x {μ : Mem}    : ∀ (n : Nat) (ρ : Mem) (l1 : Int), M_save_12 n (mg μ ρ) l1 = (M_save_12 n ρ l1).map (mgP μ) := by
  intro n
  induction n with
  | zero => intro ρ l1; rfl
  | succ n ih =>
    intro ρ l1
    rw [M_save_12, M_save_12]
    simp only [mg_259, mg_260, mg_261, mg_262, mg_263, mg_264, mg_265, mg_266, mg_267, mg_268, mg_269, mg_270, mg_271, mg_272, mg_273, mg_274, mg_275, mg_276, mg_277, mg_278, mg_279, mg_280, fa_260, fa_261, fa_262, fa_263, fa_264, fa_265, fa_266, fa_267, fa_268, fa_269, fa_270, fa_271, fa_272, fa_273, fa_274, fa_275, fa_276, fa_277, fa_278, fa_279, fa_280, fs_260, fs_261, fs_262, fs_263, fs_264, fs_265, fs_266, fs_267, fs_268, fs_269, fs_270, fs_271, fs_272, fs_273, fs_274, fs_275, fs_276, fs_277, fs_278, fs_279, fs_280, fw_259, fz_259, bmap, mbind, mite, Option.map_some, Option.map_none, Option.bind_some, mgP, ih, fr_M_isPatched, fr_M_savePatch, fr_M_save_39]
theorem fr_M_save_12 {μ ρ : Mem}    {n : Nat} {l1 : Int} : M_save_12 n (mg μ ρ) l1 = (M_save_12 n ρ l1).map (mgP μ) := fr_M_save_12_x  _ _ _
theorem fr_M_save {μ ρ : Mem}    : M_save (mg μ ρ) = (M_save ρ).map (mgP μ) := by
  unfold M_save
  simp only [mg_259, mg_260, mg_261, mg_262, mg_263, mg_264, mg_265, mg_266, mg_267, mg_268, mg_269, mg_270, mg_271, mg_272, mg_273, mg_274, mg_275, mg_276, mg_277, mg_278, mg_279, mg_280, fa_260, fa_261, fa_262, fa_263, fa_264, fa_265, fa_266, fa_267, fa_268, fa_269, fa_270, fa_271, fa_272, fa_273, fa_274, fa_275, fa_276, fa_277, fa_278, fa_279, fa_280, fs_260, fs_261, fs_262, fs_263, fs_264, fs_265, fs_266, fs_267, fs_268, fs_269, fs_270, fs_271, fs_272, fs_273, fs_274, fs_275, fs_276, fs_277, fs_278, fs_279, fs_280, fw_259, fz_259, bmap, mbind, mite, Option.map_some, Option.map_none, Option.bind_some, mgP, fr_M_save_12]
