def zt_Q : Nat → Nat × Nat × (Nat → Option Nat) := fun d => match d with
  | 0 => (3, 0, fun j => match j with | 1 => some 1 | 2 => some 2 | 3 => some 3 | 4 => some 4 | _ => none)
  | 1 => (9, 300, fun _ => none)
  | 2 => (9, 300, fun _ => none)
  | 3 => (9, 300, fun _ => none)
  | _ => (9, 300, fun _ => none)
abbrev zS_Q (S : zSh) (a : Nat) : Prop := zShp S a 5 zt_Q
def zt_U : Nat → Nat × Nat × (Nat → Option Nat) := fun d => match d with
  | 0 => (6, 0, fun j => match j with | 1 => some 1 | 2 => some 2 | 3 => some 3 | 4 => some 4 | 5 => some 5 | 6 => some 6 | _ => none)
  | 1 => (9, 300, fun _ => none)
  | 2 => (9, 300, fun _ => none)
  | 3 => (9, 300, fun _ => none)
  | 4 => (9, 300, fun _ => none)
  | 5 => (9, 300, fun _ => none)
  | _ => (9, 300, fun _ => none)
abbrev zS_U (S : zSh) (a : Nat) : Prop := zShp S a 7 zt_U
def zt_S : Nat → Nat × Nat × (Nat → Option Nat) := fun d => match d with
  | 0 => (4, 0, fun j => match j with | 3 => some 1 | 4 => some 2 | 5 => some 3 | 6 => some 4 | 7 => some 5 | 8 => some 6 | 9 => some 7 | 10 => some 8 | _ => none)
  | 1 => (9, 4, fun _ => none)
  | 2 => (9, 4, fun _ => none)
  | 3 => (9, 4, fun _ => none)
  | 4 => (9, 8, fun _ => none)
  | 5 => (9, 64, fun _ => none)
  | 6 => (9, 32, fun _ => none)
  | 7 => (9, 32, fun _ => none)
  | _ => (9, 32, fun _ => none)
abbrev zS_S (S : zSh) (a : Nat) : Prop := zShp S a 9 zt_S
def zt_F : Nat → Nat × Nat × (Nat → Option Nat) := fun d => match d with
  | 0 => (0, 0, fun j => match j with | 1 => some 1 | 2 => some 2 | 3 => some 3 | 4 => some 4 | 5 => some 5 | _ => none)
  | 1 => (9, 32, fun _ => none)
  | 2 => (9, 32, fun _ => none)
  | 3 => (9, 32, fun _ => none)
  | 4 => (9, 32, fun _ => none)
  | _ => (9, 32, fun _ => none)
abbrev zS_F (S : zSh) (a : Nat) : Prop := zShp S a 6 zt_F
def zt_G : Nat → Nat × Nat × (Nat → Option Nat) := fun d => match d with
  | _ => (1, 0, fun _ => none)
abbrev zS_G (S : zSh) (a : Nat) : Prop := zShp S a 1 zt_G
def zt_T : Nat → Nat × Nat × (Nat → Option Nat) := fun d => match d with
  | 0 => (5, 0, fun j => match j with | 3 => some 1 | 4 => some 2 | _ => none)
  | 1 => (10, 500, fun _ => none)
  | _ => (9, 3, fun _ => none)
abbrev zS_T (S : zSh) (a : Nat) : Prop := zShp S a 3 zt_T
def zt_M : Nat → Nat × Nat × (Nat → Option Nat) := fun d => match d with
  | 0 => (8, 0, fun j => match j with | 0 => some 1 | 1 => some 2 | 2 => some 3 | 3 => some 4 | 6 => some 5 | _ => none)
  | 1 => (9, 7692, fun _ => none)
  | 2 => (9, 7692, fun _ => none)
  | 3 => (9, 15384, fun _ => none)
  | 4 => (11, 2, fun _ => none)
  | _ => (9, 500, fun _ => none)
abbrev zS_M (S : zSh) (a : Nat) : Prop := zShp S a 6 zt_M
def zt_N : Nat → Nat × Nat × (Nat → Option Nat) := fun d => match d with
  | 0 => (2, 0, fun j => match j with | 1 => some 1 | 2 => some 2 | 3 => some 3 | 4 => some 12 | 5 => some 18 | 6 => some 25 | 7 => some 30 | 8 => some 35 | 9 => some 40 | _ => none)
  | 1 => (9, 32, fun _ => none)
  | 2 => (9, 32, fun _ => none)
  | 3 => (4, 0, fun j => match j with | 3 => some 4 | 4 => some 5 | 5 => some 6 | 6 => some 7 | 7 => some 8 | 8 => some 9 | 9 => some 10 | 10 => some 11 | _ => none)
  | 4 => (9, 4, fun _ => none)
  | 5 => (9, 4, fun _ => none)
  | 6 => (9, 4, fun _ => none)
  | 7 => (9, 8, fun _ => none)
  | 8 => (9, 64, fun _ => none)
  | 9 => (9, 32, fun _ => none)
  | 10 => (9, 32, fun _ => none)
  | 11 => (9, 32, fun _ => none)
  | 12 => (0, 0, fun j => match j with | 1 => some 13 | 2 => some 14 | 3 => some 15 | 4 => some 16 | 5 => some 17 | _ => none)
  | 13 => (9, 32, fun _ => none)
  | 14 => (9, 32, fun _ => none)
  | 15 => (9, 32, fun _ => none)
  | 16 => (9, 32, fun _ => none)
  | 17 => (9, 32, fun _ => none)
  | 18 => (6, 0, fun j => match j with | 1 => some 19 | 2 => some 20 | 3 => some 21 | 4 => some 22 | 5 => some 23 | 6 => some 24 | _ => none)
  | 19 => (9, 300, fun _ => none)
  | 20 => (9, 300, fun _ => none)
  | 21 => (9, 300, fun _ => none)
  | 22 => (9, 300, fun _ => none)
  | 23 => (9, 300, fun _ => none)
  | 24 => (9, 300, fun _ => none)
  | 25 => (3, 0, fun j => match j with | 1 => some 26 | 2 => some 27 | 3 => some 28 | 4 => some 29 | _ => none)
  | 26 => (9, 300, fun _ => none)
  | 27 => (9, 300, fun _ => none)
  | 28 => (9, 300, fun _ => none)
  | 29 => (9, 300, fun _ => none)
  | 30 => (3, 0, fun j => match j with | 1 => some 31 | 2 => some 32 | 3 => some 33 | 4 => some 34 | _ => none)
  | 31 => (9, 300, fun _ => none)
  | 32 => (9, 300, fun _ => none)
  | 33 => (9, 300, fun _ => none)
  | 34 => (9, 300, fun _ => none)
  | 35 => (3, 0, fun j => match j with | 1 => some 36 | 2 => some 37 | 3 => some 38 | 4 => some 39 | _ => none)
  | 36 => (9, 300, fun _ => none)
  | 37 => (9, 300, fun _ => none)
  | 38 => (9, 300, fun _ => none)
  | 39 => (9, 300, fun _ => none)
  | _ => (1, 0, fun _ => none)
abbrev zS_N (S : zSh) (a : Nat) : Prop := zShp S a 41 zt_N
def zDep (S : zSh) (a an as av at_ : Nat) : Prop := zkd S a = 7 ∧ zrf S a 0 = some an ∧ zrf S a 1 = some as ∧ zrf S a 2 = some av ∧ zrf S a 3 = some at_ ∧ zS_N S an ∧ zS_N S as ∧ zS_T S at_ ∧ zkd S av = 13 ∧ zln S av = 2
abbrev M_X8_init : zM := (RX8, cX8_init, 1, none, { frames := 1, cells := 5, slots := 31270, locals := 24 }, some [], "<init>")
abbrev M_X8_thrown : zM := (RX8, cX8_thrown, 1, (some .int), { frames := 0, cells := 0, slots := 0, locals := 0 }, some [], "thrown")
abbrev M_X8_isBetween : zM := (RX8, cX8_isBetween, 3, (some .boolean), { frames := 0, cells := 0, slots := 0, locals := 0 }, some [], "isBetween")
abbrev M_X8_fail : zM := (RX8, cX8_fail, 2, (some .int), { frames := 0, cells := 0, slots := 0, locals := 0 }, some [], "fail")
abbrev M_X8_append : zM := (RX8, cX8_append, 4, (some .int), { frames := 0, cells := 0, slots := 0, locals := 0 }, some [], "append")
abbrev M_X8_appendItem : zM := (RX8, cX8_appendItem, 5, (some .int), { frames := 1, cells := 0, slots := 0, locals := 23 }, some [], "appendItem")
abbrev M_X8_addItem : zM := (RX8, cX8_addItem, 4, (some .int), { frames := 2, cells := 0, slots := 0, locals := 47 }, some [], "addItem")
abbrev M_X8_appendBase : zM := (RX8, cX8_appendBase, 2, (some .int), { frames := 0, cells := 0, slots := 0, locals := 0 }, some [], "appendBase")
abbrev M_X8_addBase : zM := (RX8, cX8_addBase, 2, (some .int), { frames := 1, cells := 0, slots := 0, locals := 22 }, some [], "addBase")
abbrev M_X8_itemCount : zM := (RX8, cX8_itemCount, 1, (some .int), { frames := 0, cells := 0, slots := 0, locals := 0 }, some [], "itemCount")
abbrev M_X8_siteCount : zM := (RX8, cX8_siteCount, 1, (some .int), { frames := 0, cells := 0, slots := 0, locals := 0 }, some [], "siteCount")
abbrev M_X8_isBase : zM := (RX8, cX8_isBase, 2, (some .boolean), { frames := 1, cells := 0, slots := 0, locals := 22 }, some [], "isBase")
abbrev M_X8_link : zM := (RX8, cX8_link, 3, (some .int), { frames := 0, cells := 0, slots := 0, locals := 0 }, some [], "link")
abbrev M_X8_putLink : zM := (RX8, cX8_putLink, 5, (some .int), { frames := 1, cells := 0, slots := 0, locals := 22 }, some [], "putLink")
abbrev M_X8_setLink : zM := (RX8, cX8_setLink, 4, (some .int), { frames := 2, cells := 0, slots := 0, locals := 46 }, some [], "setLink")
abbrev M_X8_isSite : zM := (RX8, cX8_isSite, 2, (some .boolean), { frames := 1, cells := 0, slots := 0, locals := 22 }, some [], "isSite")
abbrev M_X8_isItem : zM := (RX8, cX8_isItem, 2, (some .boolean), { frames := 1, cells := 0, slots := 0, locals := 22 }, some [], "isItem")
abbrev M_X8_at : zM := (RX8, cX8_at, 3, (some .int), { frames := 0, cells := 0, slots := 0, locals := 0 }, some [], "at")
abbrev M_X8_order : zM := (RX8, cX8_order, 3, (some .int), { frames := 0, cells := 0, slots := 0, locals := 0 }, some [], "order")
abbrev M_X8_remove : zM := (RX8, cX8_remove, 6, none, { frames := 0, cells := 0, slots := 0, locals := 0 }, some [], "remove")
abbrev M_X8_appendUnit : zM := (RX8, cX8_appendUnit, 8, none, { frames := 1, cells := 0, slots := 0, locals := 23 }, some [], "appendUnit")
abbrev M_X8_supply : zM := (RX8, cX8_supply, 3, none, { frames := 2, cells := 0, slots := 0, locals := 50 }, some [], "supply")
abbrev M_X8_fillOrder : zM := (RX8, cX8_fillOrder, 5, none, { frames := 3, cells := 0, slots := 0, locals := 72 }, some [], "fillOrder")
abbrev M_X8_customer : zM := (RX8, cX8_customer, 3, (some .int), { frames := 0, cells := 0, slots := 0, locals := 0 }, some [], "customer")
abbrev M_X8_isCustomer : zM := (RX8, cX8_isCustomer, 4, (some .boolean), { frames := 1, cells := 0, slots := 0, locals := 22 }, some [], "isCustomer")
abbrev M_X8_bestCustomer : zM := (RX8, cX8_bestCustomer, 6, (some .int), { frames := 2, cells := 0, slots := 0, locals := 45 }, some [], "bestCustomer")
abbrev M_X8_comeToBase : zM := (RX8, cX8_comeToBase, 4, none, { frames := 3, cells := 0, slots := 0, locals := 70 }, some [], "comeToBase")
abbrev M_X8_putLevel : zM := (RX8, cX8_putLevel, 6, none, { frames := 4, cells := 0, slots := 0, locals := 96 }, some [], "putLevel")
abbrev M_X8_setLevel : zM := (RX8, cX8_setLevel, 5, (some .int), { frames := 5, cells := 0, slots := 0, locals := 121 }, some [], "setLevel")
abbrev M_X8_setNumber : zM := (RX8, cX8_setNumber, 7, (some .int), { frames := 2, cells := 0, slots := 0, locals := 43 }, some [], "setNumber")
abbrev M_X8_setShare : zM := (RX8, cX8_setShare, 4, (some .int), { frames := 3, cells := 0, slots := 0, locals := 69 }, some [], "setShare")
abbrev M_X8_setReserve : zM := (RX8, cX8_setReserve, 4, (some .int), { frames := 3, cells := 0, slots := 0, locals := 69 }, some [], "setReserve")
abbrev M_X8_setRate : zM := (RX8, cX8_setRate, 4, (some .int), { frames := 3, cells := 0, slots := 0, locals := 69 }, some [], "setRate")
abbrev M_X8_setLateralLimit : zM := (RX8, cX8_setLateralLimit, 3, (some .int), { frames := 1, cells := 0, slots := 0, locals := 22 }, some [], "setLateralLimit")
abbrev M_X8_isRefused : zM := (RX8, cX8_isRefused, 1, (some .boolean), { frames := 0, cells := 0, slots := 0, locals := 0 }, some [], "isRefused")
abbrev M_X8_appendCustomer : zM := (RX8, cX8_appendCustomer, 5, none, { frames := 1, cells := 0, slots := 0, locals := 23 }, some [], "appendCustomer")
abbrev M_X8_findHelper : zM := (RX8, cX8_findHelper, 8, (some .int), { frames := 1, cells := 0, slots := 0, locals := 22 }, some [], "findHelper")
abbrev M_X8_findBuyer : zM := (RX8, cX8_findBuyer, 4, (some .int), { frames := 2, cells := 0, slots := 0, locals := 50 }, some [], "findBuyer")
abbrev M_X8_item : zM := (RX8, cX8_item, 3, (some .int), { frames := 0, cells := 0, slots := 0, locals := 0 }, some [], "item")
abbrev M_X8_placeOrder : zM := (RX8, cX8_placeOrder, 5, none, { frames := 3, cells := 0, slots := 0, locals := 72 }, some [], "placeOrder")
abbrev M_X8_occur : zM := (RX8, cX8_occur, 9, (some .boolean), { frames := 4, cells := 0, slots := 0, locals := 96 }, some [], "occur")
abbrev M_X8_demand : zM := (RX8, cX8_demand, 4, (some .boolean), { frames := 5, cells := 0, slots := 0, locals := 124 }, some [], "demand")
abbrev M_X8_unit : zM := (RX8, cX8_unit, 3, (some .int), { frames := 0, cells := 0, slots := 0, locals := 0 }, some [], "unit")
abbrev M_X8_firstDue : zM := (RX8, cX8_firstDue, 3, (some .int), { frames := 1, cells := 0, slots := 0, locals := 22 }, some [], "firstDue")
abbrev M_X8_unitsAt : zM := (RX8, cX8_unitsAt, 6, (some .int), { frames := 1, cells := 0, slots := 0, locals := 22 }, some [], "unitsAt")
abbrev M_X8_repairAtDepot : zM := (RX8, cX8_repairAtDepot, 2, none, { frames := 2, cells := 0, slots := 0, locals := 50 }, some [], "repairAtDepot")
abbrev M_X8_endReturn : zM := (RX8, cX8_endReturn, 2, none, { frames := 3, cells := 0, slots := 0, locals := 71 }, some [], "endReturn")
abbrev M_X8_endDepotRepair : zM := (RX8, cX8_endDepotRepair, 5, none, { frames := 4, cells := 0, slots := 0, locals := 96 }, some [], "endDepotRepair")
abbrev M_X8_endLocalRepair : zM := (RX8, cX8_endLocalRepair, 6, none, { frames := 4, cells := 0, slots := 0, locals := 93 }, some [], "endLocalRepair")
abbrev M_X8_end : zM := (RX8, cX8_end, 7, none, { frames := 5, cells := 0, slots := 0, locals := 120 }, some [], "end")
abbrev M_X8_beginDay : zM := (RX8, cX8_beginDay, 3, none, { frames := 6, cells := 0, slots := 0, locals := 146 }, some [], "beginDay")
abbrev M_X8_advance : zM := (RX8, cX8_advance, 3, (some .int), { frames := 7, cells := 0, slots := 0, locals := 168 }, some [], "advance")
abbrev M_X8_draw : zM := (RX8, cX8_draw, 2, (some .int), { frames := 0, cells := 0, slots := 0, locals := 0 }, some [], "draw")
abbrev M_X8_drawDemand : zM := (RX8, cX8_drawDemand, 5, (some .boolean), { frames := 5, cells := 0, slots := 0, locals := 124 }, some [], "drawDemand")
abbrev M_X8_runDays : zM := (RX8, cX8_runDays, 7, (some .int), { frames := 7, cells := 0, slots := 0, locals := 168 }, some [], "runDays")
abbrev M_X8_run : zM := (RX8, cX8_run, 3, (some .int), { frames := 8, cells := 0, slots := 0, locals := 194 }, some [], "run")
abbrev M_X8_day : zM := (RX8, cX8_day, 1, (some .int), { frames := 0, cells := 0, slots := 0, locals := 0 }, some [], "day")
abbrev M_X8_refusedDemands : zM := (RX8, cX8_refusedDemands, 1, (some .int), { frames := 0, cells := 0, slots := 0, locals := 0 }, some [], "refusedDemands")
abbrev M_X8_level : zM := (RX8, cX8_level, 3, (some .int), { frames := 2, cells := 0, slots := 0, locals := 43 }, some [], "level")
abbrev M_X8_onHand : zM := (RX8, cX8_onHand, 3, (some .int), { frames := 2, cells := 0, slots := 0, locals := 43 }, some [], "onHand")
abbrev M_X8_waitingOf : zM := (RX8, cX8_waitingOf, 5, (some .int), { frames := 2, cells := 0, slots := 0, locals := 45 }, some [], "waitingOf")
abbrev M_X8_waiting : zM := (RX8, cX8_waiting, 3, (some .int), { frames := 3, cells := 0, slots := 0, locals := 69 }, some [], "waiting")
abbrev M_X8_topPriority : zM := (RX8, cX8_topPriority, 4, (some .int), { frames := 3, cells := 0, slots := 0, locals := 70 }, some [], "topPriority")
abbrev M_X8_keptOrders : zM := (RX8, cX8_keptOrders, 4, (some .int), { frames := 2, cells := 0, slots := 0, locals := 43 }, some [], "keptOrders")
abbrev M_X8_dueInOf : zM := (RX8, cX8_dueInOf, 5, (some .int), { frames := 1, cells := 0, slots := 0, locals := 22 }, some [], "dueInOf")
abbrev M_X8_dueIn : zM := (RX8, cX8_dueIn, 3, (some .int), { frames := 2, cells := 0, slots := 0, locals := 46 }, some [], "dueIn")
abbrev M_X8_position : zM := (RX8, cX8_position, 3, (some .int), { frames := 3, cells := 0, slots := 0, locals := 69 }, some [], "position")
abbrev M_X8_underWay : zM := (RX8, cX8_underWay, 5, (some .int), { frames := 2, cells := 0, slots := 0, locals := 43 }, some [], "underWay")
abbrev M_X8_fleet : zM := (RX8, cX8_fleet, 4, (some .int), { frames := 3, cells := 0, slots := 0, locals := 69 }, some [], "fleet")
abbrev M_X8_nextArrival : zM := (RX8, cX8_nextArrival, 6, (some .int), { frames := 2, cells := 0, slots := 0, locals := 43 }, some [], "nextArrival")
abbrev M_X8_countDue : zM := (RX8, cX8_countDue, 3, (some .int), { frames := 1, cells := 0, slots := 0, locals := 22 }, some [], "countDue")
abbrev M_X8_dueCount : zM := (RX8, cX8_dueCount, 1, (some .int), { frames := 2, cells := 0, slots := 0, locals := 44 }, some [], "dueCount")
abbrev M_X8_isAhead : zM := (RX8, cX8_isAhead, 3, (some .boolean), { frames := 1, cells := 0, slots := 0, locals := 22 }, some [], "isAhead")
abbrev M_X8_countAhead : zM := (RX8, cX8_countAhead, 4, (some .int), { frames := 2, cells := 0, slots := 0, locals := 44 }, some [], "countAhead")
abbrev M_X8_unitAt : zM := (RX8, cX8_unitAt, 3, (some .int), { frames := 3, cells := 0, slots := 0, locals := 67 }, some [], "unitAt")
abbrev M_X8_dueField : zM := (RX8, cX8_dueField, 3, (some .int), { frames := 4, cells := 0, slots := 0, locals := 89 }, some [], "dueField")
abbrev M_X8_dueDay : zM := (RX8, cX8_dueDay, 2, (some .int), { frames := 5, cells := 0, slots := 0, locals := 111 }, some [], "dueDay")
abbrev M_X8_dueKind : zM := (RX8, cX8_dueKind, 2, (some .int), { frames := 5, cells := 0, slots := 0, locals := 111 }, some [], "dueKind")
abbrev M_X8_dueItem : zM := (RX8, cX8_dueItem, 2, (some .int), { frames := 5, cells := 0, slots := 0, locals := 111 }, some [], "dueItem")
abbrev M_X8_dueSite : zM := (RX8, cX8_dueSite, 2, (some .int), { frames := 5, cells := 0, slots := 0, locals := 111 }, some [], "dueSite")
abbrev M_X8_dueOwner : zM := (RX8, cX8_dueOwner, 2, (some .int), { frames := 5, cells := 0, slots := 0, locals := 111 }, some [], "dueOwner")
abbrev M_X8_areMeant : zM := (RX8, cX8_areMeant, 3, (some .boolean), { frames := 2, cells := 0, slots := 0, locals := 43 }, some [], "areMeant")
abbrev M_X8_sum : zM := (RX8, cX8_sum, 8, (some .int), { frames := 1, cells := 0, slots := 0, locals := 22 }, some [], "sum")
abbrev M_X8_figure : zM := (RX8, cX8_figure, 4, (some .int), { frames := 3, cells := 0, slots := 0, locals := 65 }, some [], "figure")
abbrev M_X8_demands : zM := (RX8, cX8_demands, 3, (some .int), { frames := 4, cells := 0, slots := 0, locals := 88 }, some [], "demands")
abbrev M_X8_commonDivisor : zM := (RX8, cX8_commonDivisor, 5, (some .int), { frames := 0, cells := 0, slots := 0, locals := 0 }, some [], "commonDivisor")
abbrev M_X8_fillRate : zM := (RX8, cX8_fillRate, 6, (some .int), { frames := 3, cells := 0, slots := 0, locals := 65 }, some [], "fillRate")
abbrev M_X8_fillNumerator : zM := (RX8, cX8_fillNumerator, 3, (some .int), { frames := 4, cells := 0, slots := 0, locals := 90 }, some [], "fillNumerator")
abbrev M_X8_fillDenominator : zM := (RX8, cX8_fillDenominator, 3, (some .int), { frames := 4, cells := 0, slots := 0, locals := 90 }, some [], "fillDenominator")
abbrev M_X8_delays : zM := (RX8, cX8_delays, 3, (some .int), { frames := 4, cells := 0, slots := 0, locals := 88 }, some [], "delays")
abbrev M_X8_backorderDays : zM := (RX8, cX8_backorderDays, 3, (some .int), { frames := 4, cells := 0, slots := 0, locals := 88 }, some [], "backorderDays")
abbrev M_X8_helped : zM := (RX8, cX8_helped, 3, (some .int), { frames := 4, cells := 0, slots := 0, locals := 88 }, some [], "helped")
abbrev M_X8_copy : zM := (RX8, cX8_copy, 5, none, { frames := 0, cells := 0, slots := 0, locals := 0 }, some [], "copy")
abbrev M_X8_bestSite : zM := (RX8, cX8_bestSite, 10, (some .int), { frames := 8, cells := 0, slots := 0, locals := 194 }, some [], "bestSite")
abbrev M_X8_appendText : zM := (RX8, cX8_appendText, 3, (some .int), { frames := 1, cells := 0, slots := 0, locals := 21 }, some [], "appendText")
abbrev M_X8_truncateText : zM := (RX8, cX8_truncateText, 2, (some .int), { frames := 1, cells := 0, slots := 0, locals := 22 }, some [], "truncateText")
abbrev M_X8_clearNetwork : zM := (RX8, cX8_clearNetwork, 2, none, { frames := 0, cells := 0, slots := 0, locals := 0 }, some [], "clearNetwork")
abbrev M_X8_byteAt : zM := (RX8, cX8_byteAt, 2, (some .int), { frames := 0, cells := 0, slots := 0, locals := 0 }, some [], "byteAt")
abbrev M_X8_isLetter : zM := (RX8, cX8_isLetter, 1, (some .boolean), { frames := 1, cells := 0, slots := 0, locals := 22 }, some [], "isLetter")
abbrev M_X8_isDigit : zM := (RX8, cX8_isDigit, 1, (some .boolean), { frames := 1, cells := 0, slots := 0, locals := 22 }, some [], "isDigit")
abbrev M_X8_nextToken : zM := (RX8, cX8_nextToken, 2, none, { frames := 2, cells := 0, slots := 0, locals := 42 }, some [], "nextToken")
abbrev M_X8_isWord : zM := (RX8, cX8_isWord, 5, (some .boolean), { frames := 5, cells := 0, slots := 0, locals := 106 }, some [], "isWord")
abbrev M_X8_require : zM := (RX8, cX8_require, 3, none, { frames := 0, cells := 0, slots := 0, locals := 0 }, some [], "require")
abbrev M_X8_advanceToken : zM := (RX8, cX8_advanceToken, 1, none, { frames := 3, cells := 0, slots := 0, locals := 63 }, some [], "advanceToken")
abbrev M_X8_parseNumber : zM := (RX8, cX8_parseNumber, 4, (some .int), { frames := 4, cells := 0, slots := 0, locals := 83 }, some [], "parseNumber")
abbrev M_X8_parseItemStatement : zM := (RX8, cX8_parseItemStatement, 5, none, { frames := 5, cells := 0, slots := 0, locals := 106 }, some [], "parseItemStatement")
abbrev M_X8_parseBaseStatement : zM := (RX8, cX8_parseBaseStatement, 3, none, { frames := 5, cells := 0, slots := 0, locals := 106 }, some [], "parseBaseStatement")
abbrev M_X8_parseItem : zM := (RX8, cX8_parseItem, 1, (some .int), { frames := 5, cells := 0, slots := 0, locals := 106 }, some [], "parseItem")
abbrev M_X8_parseLevelStatement : zM := (RX8, cX8_parseLevelStatement, 4, none, { frames := 6, cells := 0, slots := 0, locals := 126 }, some [], "parseLevelStatement")
abbrev M_X8_parseBase : zM := (RX8, cX8_parseBase, 1, (some .int), { frames := 5, cells := 0, slots := 0, locals := 106 }, some [], "parseBase")
abbrev M_X8_parseLinkStatement : zM := (RX8, cX8_parseLinkStatement, 5, none, { frames := 6, cells := 0, slots := 0, locals := 126 }, some [], "parseLinkStatement")
abbrev M_X8_parseNumberStatement : zM := (RX8, cX8_parseNumberStatement, 6, none, { frames := 6, cells := 0, slots := 0, locals := 126 }, some [], "parseNumberStatement")
abbrev M_X8_parseStatement : zM := (RX8, cX8_parseStatement, 2, none, { frames := 7, cells := 0, slots := 0, locals := 151 }, some [], "parseStatement")
abbrev M_X8_load : zM := (RX8, cX8_load, 2, (some .int), { frames := 8, cells := 0, slots := 0, locals := 172 }, some [], "load")
abbrev M_X8_errorCode : zM := (RX8, cX8_errorCode, 1, (some .int), { frames := 0, cells := 0, slots := 0, locals := 0 }, some [], "errorCode")
abbrev M_X8_errorPosition : zM := (RX8, cX8_errorPosition, 1, (some .int), { frames := 0, cells := 0, slots := 0, locals := 0 }, some [], "errorPosition")
abbrev M_X8_save : zM := (RX8, cX8_save, 2, none, { frames := 1, cells := 0, slots := 0, locals := 24 }, some [], "save")
abbrev M_X8_restore : zM := (RX8, cX8_restore, 2, none, { frames := 1, cells := 0, slots := 0, locals := 24 }, some [], "restore")
abbrev M_X4_init : zM := (RX4, cX4_init, 1, none, { frames := 1, cells := 8, slots := 180, locals := 24 }, some [], "<init>")
abbrev M_X0_init : zM := (RX0, cX0_init, 1, none, { frames := 1, cells := 5, slots := 160, locals := 24 }, some [], "<init>")
abbrev M_X6_init : zM := (RX6, cX6_init, 1, none, { frames := 1, cells := 6, slots := 1800, locals := 24 }, some [], "<init>")
abbrev M_X3_init : zM := (RX3, cX3_init, 1, none, { frames := 1, cells := 4, slots := 1200, locals := 24 }, some [], "<init>")
abbrev M_X1_init : zM := (RX1, cX1_init, 1, none, { frames := 1, cells := 0, slots := 0, locals := 24 }, some [], "<init>")
abbrev M_X2_init : zM := (RX2, cX2_init, 1, none, { frames := 2, cells := 40, slots := 5844, locals := 44 }, some [], "<init>")
abbrev M_J7_fill_53178 : zM := (RJ7, cJ7_fill_53178, 4, none, { frames := 0, cells := 0, slots := 0, locals := 0 }, some [], "fill")
abbrev M_X4_clear : zM := (RX4, cX4_clear, 1, none, { frames := 1, cells := 0, slots := 0, locals := 23 }, some [], "clear")
abbrev M_X0_clear : zM := (RX0, cX0_clear, 1, none, { frames := 1, cells := 0, slots := 0, locals := 23 }, some [], "clear")
abbrev M_X2_clear : zM := (RX2, cX2_clear, 1, none, { frames := 2, cells := 0, slots := 0, locals := 43 }, some [], "clear")
abbrev M_X7_within : zM := (RX7, cX7_within, 3, (some .boolean), { frames := 0, cells := 0, slots := 0, locals := 0 }, some [], "within")
abbrev M_X4_isBase : zM := (RX4, cX4_isBase, 2, (some .boolean), { frames := 0, cells := 0, slots := 0, locals := 0 }, some [], "isBase")
abbrev M_X4_isSite : zM := (RX4, cX4_isSite, 2, (some .boolean), { frames := 0, cells := 0, slots := 0, locals := 0 }, some [], "isSite")
abbrev M_X4_isItem : zM := (RX4, cX4_isItem, 2, (some .boolean), { frames := 0, cells := 0, slots := 0, locals := 0 }, some [], "isItem")
abbrev M_X4_newItem : zM := (RX4, cX4_newItem, 4, (some .int), { frames := 0, cells := 0, slots := 0, locals := 0 }, some [], "newItem")
abbrev M_X4_newBase : zM := (RX4, cX4_newBase, 2, (some .int), { frames := 0, cells := 0, slots := 0, locals := 0 }, some [], "newBase")
abbrev M_X7_cell : zM := (RX7, cX7_cell, 2, (some .int), { frames := 0, cells := 0, slots := 0, locals := 0 }, some [], "cell")
abbrev M_X3_firstOf : zM := (RX3, cX3_firstOf, 5, (some .int), { frames := 0, cells := 0, slots := 0, locals := 0 }, some [], "firstOf")
abbrev M_X3_remove : zM := (RX3, cX3_remove, 3, none, { frames := 0, cells := 0, slots := 0, locals := 0 }, some [], "remove")
abbrev M_X6_move : zM := (RX6, cX6_move, 3, none, { frames := 0, cells := 0, slots := 0, locals := 0 }, some [], "move")
abbrev M_X6_add : zM := (RX6, cX6_add, 8, none, { frames := 1, cells := 0, slots := 0, locals := 22 }, some [], "add")
abbrev M_X2_stockDepot : zM := (RX2, cX2_stockDepot, 4, none, { frames := 2, cells := 0, slots := 0, locals := 49 }, some [], "stockDepot")
abbrev M_X2_stockBase : zM := (RX2, cX2_stockBase, 5, none, { frames := 1, cells := 0, slots := 0, locals := 24 }, some [], "stockBase")
abbrev M_X2_changeLevel : zM := (RX2, cX2_changeLevel, 7, none, { frames := 3, cells := 0, slots := 0, locals := 72 }, some [], "changeLevel")
abbrev M_X4_join : zM := (RX4, cX4_join, 4, none, { frames := 0, cells := 0, slots := 0, locals := 0 }, some [], "join")
abbrev M_X4_linkTime : zM := (RX4, cX4_linkTime, 3, (some .int), { frames := 0, cells := 0, slots := 0, locals := 0 }, some [], "linkTime")
abbrev M_X7_exchange : zM := (RX7, cX7_exchange, 4, (some .int), { frames := 0, cells := 0, slots := 0, locals := 0 }, some [], "exchange")
abbrev M_X2_refuses : zM := (RX2, cX2_refuses, 1, (some .boolean), { frames := 0, cells := 0, slots := 0, locals := 0 }, some [], "refuses")
abbrev M_X2_isRepairedLocally : zM := (RX2, cX2_isRepairedLocally, 2, (some .boolean), { frames := 0, cells := 0, slots := 0, locals := 0 }, some [], "isRepairedLocally")
abbrev M_X3_add : zM := (RX3, cX3_add, 5, none, { frames := 0, cells := 0, slots := 0, locals := 0 }, some [], "add")
abbrev M_X2_canHelp : zM := (RX2, cX2_canHelp, 6, (some .boolean), { frames := 1, cells := 0, slots := 0, locals := 22 }, some [], "canHelp")
abbrev M_X2_helpsBetter : zM := (RX2, cX2_helpsBetter, 7, (some .boolean), { frames := 1, cells := 0, slots := 0, locals := 22 }, some [], "helpsBetter")
abbrev M_X2_findHelper : zM := (RX2, cX2_findHelper, 5, (some .int), { frames := 2, cells := 0, slots := 0, locals := 48 }, some [], "findHelper")
abbrev M_X2_sendHelp : zM := (RX2, cX2_sendHelp, 4, none, { frames := 2, cells := 0, slots := 0, locals := 49 }, some [], "sendHelp")
abbrev M_X2_order : zM := (RX2, cX2_order, 5, none, { frames := 2, cells := 0, slots := 0, locals := 49 }, some [], "order")
abbrev M_X2_occur : zM := (RX2, cX2_occur, 9, (some .boolean), { frames := 3, cells := 0, slots := 0, locals := 73 }, some [], "occur")
abbrev M_X6_removeFirst : zM := (RX6, cX6_removeFirst, 2, none, { frames := 1, cells := 0, slots := 0, locals := 22 }, some [], "removeFirst")
abbrev M_X6_countDepotRepairs : zM := (RX6, cX6_countDepotRepairs, 4, (some .int), { frames := 0, cells := 0, slots := 0, locals := 0 }, some [], "countDepotRepairs")
abbrev M_X2_endReturn : zM := (RX2, cX2_endReturn, 2, none, { frames := 2, cells := 0, slots := 0, locals := 49 }, some [], "endReturn")
abbrev M_X2_freePlace : zM := (RX2, cX2_freePlace, 3, none, { frames := 2, cells := 0, slots := 0, locals := 49 }, some [], "freePlace")
abbrev M_X2_treatFirst : zM := (RX2, cX2_treatFirst, 7, none, { frames := 3, cells := 0, slots := 0, locals := 72 }, some [], "treatFirst")
abbrev M_X2_beginDay : zM := (RX2, cX2_beginDay, 3, none, { frames := 4, cells := 0, slots := 0, locals := 98 }, some [], "beginDay")
abbrev M_X1_start : zM := (RX1, cX1_start, 2, none, { frames := 0, cells := 0, slots := 0, locals := 0 }, some [], "start")
abbrev M_X1_draw : zM := (RX1, cX1_draw, 2, (some .int), { frames := 0, cells := 0, slots := 0, locals := 0 }, some [], "draw")
abbrev M_X2_drawDemand : zM := (RX2, cX2_drawDemand, 4, (some .int), { frames := 4, cells := 0, slots := 0, locals := 101 }, some [], "drawDemand")
abbrev M_X2_runDays : zM := (RX2, cX2_runDays, 7, (some .int), { frames := 5, cells := 0, slots := 0, locals := 124 }, some [], "runDays")
abbrev M_X3_countOf : zM := (RX3, cX3_countOf, 5, (some .int), { frames := 0, cells := 0, slots := 0, locals := 0 }, some [], "countOf")
abbrev M_X6_countOwned : zM := (RX6, cX6_countOwned, 5, (some .int), { frames := 0, cells := 0, slots := 0, locals := 0 }, some [], "countOwned")
abbrev M_X2_expected : zM := (RX2, cX2_expected, 3, (some .int), { frames := 1, cells := 0, slots := 0, locals := 24 }, some [], "expected")
abbrev M_X6_countKind : zM := (RX6, cX6_countKind, 5, (some .int), { frames := 0, cells := 0, slots := 0, locals := 0 }, some [], "countKind")
abbrev M_X2_countKind : zM := (RX2, cX2_countKind, 3, (some .int), { frames := 1, cells := 0, slots := 0, locals := 24 }, some [], "countKind")
abbrev M_X6_firstArrival : zM := (RX6, cX6_firstArrival, 4, (some .int), { frames := 0, cells := 0, slots := 0, locals := 0 }, some [], "firstArrival")
abbrev M_X2_total : zM := (RX2, cX2_total, 11, (some .int), { frames := 1, cells := 0, slots := 0, locals := 21 }, some [], "total")
abbrev M_X7_commonDivisor : zM := (RX7, cX7_commonDivisor, 6, (some .int), { frames := 0, cells := 0, slots := 0, locals := 0 }, some [], "commonDivisor")
abbrev M_X7_copyRow : zM := (RX7, cX7_copyRow, 3, none, { frames := 1, cells := 0, slots := 0, locals := 40 }, some [], "copyRow")
abbrev M_X4_copyFrom : zM := (RX4, cX4_copyFrom, 2, none, { frames := 2, cells := 0, slots := 0, locals := 62 }, some [], "copyFrom")
abbrev M_X0_copyFrom : zM := (RX0, cX0_copyFrom, 2, none, { frames := 2, cells := 0, slots := 0, locals := 62 }, some [], "copyFrom")
abbrev M_X6_copyFrom : zM := (RX6, cX6_copyFrom, 2, none, { frames := 2, cells := 0, slots := 0, locals := 62 }, some [], "copyFrom")
abbrev M_X3_copyFrom : zM := (RX3, cX3_copyFrom, 2, none, { frames := 2, cells := 0, slots := 0, locals := 62 }, some [], "copyFrom")
abbrev M_X2_copyFrom : zM := (RX2, cX2_copyFrom, 2, none, { frames := 3, cells := 0, slots := 0, locals := 83 }, some [], "copyFrom")
abbrev M_X5_init : zM := (RX5, cX5_init, 1, none, { frames := 1, cells := 2, slots := 503, locals := 24 }, some [], "<init>")
abbrev M_X5_isBlank : zM := (RX5, cX5_isBlank, 1, (some .boolean), { frames := 0, cells := 0, slots := 0, locals := 0 }, some [], "isBlank")
abbrev M_X5_isLetter : zM := (RX5, cX5_isLetter, 1, (some .boolean), { frames := 0, cells := 0, slots := 0, locals := 0 }, some [], "isLetter")
abbrev M_X5_readWord : zM := (RX5, cX5_readWord, 1, none, { frames := 1, cells := 0, slots := 0, locals := 20 }, some [], "readWord")
abbrev M_X5_isDigit : zM := (RX5, cX5_isDigit, 1, (some .boolean), { frames := 0, cells := 0, slots := 0, locals := 0 }, some [], "isDigit")
abbrev M_X5_readNumber : zM := (RX5, cX5_readNumber, 1, none, { frames := 1, cells := 0, slots := 0, locals := 40 }, some [], "readNumber")
abbrev M_X5_nextToken : zM := (RX5, cX5_nextToken, 1, none, { frames := 2, cells := 0, slots := 0, locals := 60 }, some [], "nextToken")
abbrev M_X5_wordIs : zM := (RX5, cX5_wordIs, 3, (some .boolean), { frames := 5, cells := 0, slots := 0, locals := 106 }, some [], "wordIs")
abbrev M_X5_findStatement : zM := (RX5, cX5_findStatement, 1, (some .int), { frames := 6, cells := 0, slots := 0, locals := 128 }, some [], "findStatement")
abbrev M_X5_fail : zM := (RX5, cX5_fail, 2, (some .int), { frames := 0, cells := 0, slots := 0, locals := 0 }, some [], "fail")
abbrev M_X5_isLinkArgument : zM := (RX5, cX5_isLinkArgument, 3, (some .boolean), { frames := 1, cells := 0, slots := 0, locals := 22 }, some [], "isLinkArgument")
abbrev M_X5_mostOf : zM := (RX5, cX5_mostOf, 1, (some .int), { frames := 0, cells := 0, slots := 0, locals := 0 }, some [], "mostOf")
abbrev M_X5_isCellArgument : zM := (RX5, cX5_isCellArgument, 4, (some .boolean), { frames := 1, cells := 0, slots := 0, locals := 22 }, some [], "isCellArgument")
abbrev M_X5_isInRange : zM := (RX5, cX5_isInRange, 4, (some .boolean), { frames := 2, cells := 0, slots := 0, locals := 45 }, some [], "isInRange")
abbrev M_X5_readStatement : zM := (RX5, cX5_readStatement, 5, (some .int), { frames := 7, cells := 0, slots := 0, locals := 148 }, some [], "readStatement")
abbrev M_X5_apply : zM := (RX5, cX5_apply, 7, none, { frames := 4, cells := 0, slots := 0, locals := 98 }, some [], "apply")
abbrev M_X5_read : zM := (RX5, cX5_read, 4, (some .int), { frames := 8, cells := 0, slots := 0, locals := 172 }, some [], "read")
abbrev M_X5_isFull : zM := (RX5, cX5_isFull, 1, (some .boolean), { frames := 0, cells := 0, slots := 0, locals := 0 }, some [], "isFull")
abbrev M_X5_append : zM := (RX5, cX5_append, 3, none, { frames := 1, cells := 0, slots := 0, locals := 20 }, some [], "append")
abbrev M_X7_init : zM := (RX7, cX7_init, 1, none, { frames := 3, cells := 86, slots := 12222, locals := 64 }, some [], "<init>")
abbrev M_X7_itemCount : zM := (RX7, cX7_itemCount, 1, (some .int), { frames := 0, cells := 0, slots := 0, locals := 0 }, some [], "itemCount")
abbrev M_X7_siteCount : zM := (RX7, cX7_siteCount, 1, (some .int), { frames := 0, cells := 0, slots := 0, locals := 0 }, some [], "siteCount")
abbrev M_X7_day : zM := (RX7, cX7_day, 1, (some .int), { frames := 0, cells := 0, slots := 0, locals := 0 }, some [], "day")
abbrev M_X7_refusedDemands : zM := (RX7, cX7_refusedDemands, 1, (some .int), { frames := 0, cells := 0, slots := 0, locals := 0 }, some [], "refusedDemands")
abbrev M_X7_dueCount : zM := (RX7, cX7_dueCount, 1, (some .int), { frames := 0, cells := 0, slots := 0, locals := 0 }, some [], "dueCount")
abbrev M_X7_load : zM := (RX7, cX7_load, 3, (some .int), { frames := 9, cells := 0, slots := 0, locals := 195 }, some [], "load")
abbrev M_X7_errorCode : zM := (RX7, cX7_errorCode, 1, (some .int), { frames := 0, cells := 0, slots := 0, locals := 0 }, some [], "errorCode")
abbrev M_X7_errorPosition : zM := (RX7, cX7_errorPosition, 1, (some .int), { frames := 0, cells := 0, slots := 0, locals := 0 }, some [], "errorPosition")
abbrev M_X7_checkRange : zM := (RX7, cX7_checkRange, 3, none, { frames := 6, cells := 1, slots := 6, locals := 90 }, some [], "checkRange")
abbrev M_X7_addItem : zM := (RX7, cX7_addItem, 4, (some .int), { frames := 7, cells := 4, slots := 24, locals := 112 }, some [], "addItem")
abbrev M_X7_addBase : zM := (RX7, cX7_addBase, 2, (some .int), { frames := 7, cells := 2, slots := 12, locals := 112 }, some [], "addBase")
abbrev M_X7_checkBase : zM := (RX7, cX7_checkBase, 2, none, { frames := 6, cells := 1, slots := 6, locals := 90 }, some [], "checkBase")
abbrev M_X7_setLink : zM := (RX7, cX7_setLink, 5, (some .int), { frames := 7, cells := 3, slots := 18, locals := 112 }, some [], "setLink")
abbrev M_X7_checkSite : zM := (RX7, cX7_checkSite, 2, none, { frames := 6, cells := 1, slots := 6, locals := 90 }, some [], "checkSite")
abbrev M_X7_checkItem : zM := (RX7, cX7_checkItem, 2, none, { frames := 6, cells := 1, slots := 6, locals := 90 }, some [], "checkItem")
abbrev M_X7_setLevel : zM := (RX7, cX7_setLevel, 6, (some .int), { frames := 7, cells := 4, slots := 24, locals := 112 }, some [], "setLevel")
abbrev M_X7_setShare : zM := (RX7, cX7_setShare, 4, (some .int), { frames := 7, cells := 3, slots := 18, locals := 112 }, some [], "setShare")
abbrev M_X7_setReserve : zM := (RX7, cX7_setReserve, 4, (some .int), { frames := 7, cells := 3, slots := 18, locals := 112 }, some [], "setReserve")
abbrev M_X7_setRate : zM := (RX7, cX7_setRate, 4, (some .int), { frames := 7, cells := 3, slots := 18, locals := 112 }, some [], "setRate")
abbrev M_X7_setLateralLimit : zM := (RX7, cX7_setLateralLimit, 3, (some .int), { frames := 7, cells := 1, slots := 6, locals := 112 }, some [], "setLateralLimit")
abbrev M_X7_demand : zM := (RX7, cX7_demand, 4, (some .boolean), { frames := 7, cells := 4, slots := 24, locals := 112 }, some [], "demand")
abbrev M_X7_checkLastDay : zM := (RX7, cX7_checkLastDay, 2, none, { frames := 6, cells := 1, slots := 6, locals := 90 }, some [], "checkLastDay")
abbrev M_X7_advance : zM := (RX7, cX7_advance, 3, (some .int), { frames := 7, cells := 2, slots := 12, locals := 120 }, some [], "advance")
abbrev M_X7_run : zM := (RX7, cX7_run, 3, (some .int), { frames := 7, cells := 3, slots := 18, locals := 150 }, some [], "run")
abbrev M_X7_level : zM := (RX7, cX7_level, 3, (some .int), { frames := 7, cells := 2, slots := 12, locals := 111 }, some [], "level")
abbrev M_X7_onHand : zM := (RX7, cX7_onHand, 3, (some .int), { frames := 7, cells := 2, slots := 12, locals := 111 }, some [], "onHand")
abbrev M_X7_waiting : zM := (RX7, cX7_waiting, 3, (some .int), { frames := 7, cells := 2, slots := 12, locals := 111 }, some [], "waiting")
abbrev M_X7_topPriority : zM := (RX7, cX7_topPriority, 4, (some .int), { frames := 7, cells := 2, slots := 12, locals := 111 }, some [], "topPriority")
abbrev M_X7_keptOrders : zM := (RX7, cX7_keptOrders, 2, (some .int), { frames := 7, cells := 1, slots := 6, locals := 111 }, some [], "keptOrders")
abbrev M_X7_dueIn : zM := (RX7, cX7_dueIn, 3, (some .int), { frames := 7, cells := 2, slots := 12, locals := 111 }, some [], "dueIn")
abbrev M_X7_position : zM := (RX7, cX7_position, 3, (some .int), { frames := 7, cells := 2, slots := 12, locals := 111 }, some [], "position")
abbrev M_X7_underWay : zM := (RX7, cX7_underWay, 3, (some .int), { frames := 7, cells := 2, slots := 12, locals := 112 }, some [], "underWay")
abbrev M_X7_fleet : zM := (RX7, cX7_fleet, 4, (some .int), { frames := 7, cells := 1, slots := 6, locals := 111 }, some [], "fleet")
abbrev M_X7_nextArrival : zM := (RX7, cX7_nextArrival, 4, (some .int), { frames := 7, cells := 2, slots := 12, locals := 111 }, some [], "nextArrival")
abbrev M_X7_checkUnit : zM := (RX7, cX7_checkUnit, 2, none, { frames := 6, cells := 1, slots := 6, locals := 90 }, some [], "checkUnit")
abbrev M_X7_dueDay : zM := (RX7, cX7_dueDay, 2, (some .int), { frames := 7, cells := 1, slots := 6, locals := 111 }, some [], "dueDay")
abbrev M_X7_dueKind : zM := (RX7, cX7_dueKind, 2, (some .int), { frames := 7, cells := 1, slots := 6, locals := 111 }, some [], "dueKind")
abbrev M_X7_dueItem : zM := (RX7, cX7_dueItem, 2, (some .int), { frames := 7, cells := 1, slots := 6, locals := 111 }, some [], "dueItem")
abbrev M_X7_dueSite : zM := (RX7, cX7_dueSite, 2, (some .int), { frames := 7, cells := 1, slots := 6, locals := 111 }, some [], "dueSite")
abbrev M_X7_dueOwner : zM := (RX7, cX7_dueOwner, 2, (some .int), { frames := 7, cells := 1, slots := 6, locals := 111 }, some [], "dueOwner")
abbrev M_X7_checkFigure : zM := (RX7, cX7_checkFigure, 3, none, { frames := 7, cells := 2, slots := 12, locals := 111 }, some [], "checkFigure")
abbrev M_X7_demands : zM := (RX7, cX7_demands, 3, (some .int), { frames := 8, cells := 2, slots := 12, locals := 133 }, some [], "demands")
abbrev M_X7_fillNumerator : zM := (RX7, cX7_fillNumerator, 4, (some .int), { frames := 8, cells := 2, slots := 12, locals := 133 }, some [], "fillNumerator")
abbrev M_X7_fillDenominator : zM := (RX7, cX7_fillDenominator, 5, (some .int), { frames := 8, cells := 2, slots := 12, locals := 133 }, some [], "fillDenominator")
abbrev M_X7_delays : zM := (RX7, cX7_delays, 3, (some .int), { frames := 8, cells := 2, slots := 12, locals := 133 }, some [], "delays")
abbrev M_X7_backorderDays : zM := (RX7, cX7_backorderDays, 3, (some .int), { frames := 8, cells := 2, slots := 12, locals := 133 }, some [], "backorderDays")
abbrev M_X7_helped : zM := (RX7, cX7_helped, 3, (some .int), { frames := 8, cells := 2, slots := 12, locals := 133 }, some [], "helped")
abbrev M_X7_bestSite : zM := (RX7, cX7_bestSite, 8, (some .int), { frames := 7, cells := 4, slots := 24, locals := 150 }, some [], "bestSite")
abbrev M_X7_appendText : zM := (RX7, cX7_appendText, 2, (some .int), { frames := 6, cells := 1, slots := 6, locals := 90 }, some [], "appendText")
abbrev M_X7_truncateText : zM := (RX7, cX7_truncateText, 2, (some .int), { frames := 7, cells := 1, slots := 6, locals := 112 }, some [], "truncateText")
abbrev M_X7_save : zM := (RX7, cX7_save, 3, none, { frames := 7, cells := 42, slots := 5860, locals := 112 }, some [], "save")
abbrev M_X7_restore : zM := (RX7, cX7_restore, 3, none, { frames := 7, cells := 2, slots := 12, locals := 112 }, some [], "restore")
abbrev M_L_addItem : zM := (RL, cL_addItem, 6, (some .int), { frames := 8, cells := 4, slots := 24, locals := 135 }, some [(0, 12, 15, 13), (0, 12, 19, 15)], "addItem")
abbrev M_L_addBase : zM := (RL, cL_addBase, 4, (some .int), { frames := 8, cells := 2, slots := 12, locals := 133 }, some [(0, 9, 12, 13), (0, 9, 15, 15)], "addBase")
abbrev M_L_setLink : zM := (RL, cL_setLink, 6, (some .int), { frames := 8, cells := 3, slots := 18, locals := 136 }, some [(0, 12, 15, 24), (0, 12, 19, 13)], "setLink")
abbrev M_L_setLevel : zM := (RL, cL_setLevel, 6, (some .int), { frames := 8, cells := 4, slots := 24, locals := 137 }, some [(0, 12, 15, 24), (0, 12, 19, 13), (0, 12, 23, 15)], "setLevel")
abbrev M_L_setShare : zM := (RL, cL_setShare, 6, (some .int), { frames := 8, cells := 3, slots := 18, locals := 135 }, some [(0, 12, 15, 24), (0, 12, 19, 13)], "setShare")
abbrev M_L_setReserve : zM := (RL, cL_setReserve, 6, (some .int), { frames := 8, cells := 3, slots := 18, locals := 135 }, some [(0, 12, 15, 24), (0, 12, 19, 13)], "setReserve")
abbrev M_L_setRate : zM := (RL, cL_setRate, 6, (some .int), { frames := 8, cells := 3, slots := 18, locals := 135 }, some [(0, 12, 15, 24), (0, 12, 19, 13)], "setRate")
abbrev M_L_setLateralLimit : zM := (RL, cL_setLateralLimit, 4, (some .int), { frames := 8, cells := 1, slots := 6, locals := 134 }, some [(0, 9, 12, 13)], "setLateralLimit")
abbrev M_L_demand : zM := (RL, cL_demand, 6, (some .int), { frames := 8, cells := 4, slots := 24, locals := 135 }, some [(0, 19, 22, 24), (0, 19, 26, 13), (0, 19, 30, 15)], "demand")
abbrev M_L_advance : zM := (RL, cL_advance, 4, (some .int), { frames := 8, cells := 2, slots := 12, locals := 142 }, some [(0, 9, 12, 13), (0, 9, 15, 15)], "advance")
abbrev M_L_run : zM := (RL, cL_run, 5, (some .int), { frames := 8, cells := 3, slots := 18, locals := 172 }, some [(0, 10, 13, 13), (0, 10, 17, 15)], "run")
abbrev M_L_level : zM := (RL, cL_level, 5, (some .int), { frames := 8, cells := 2, slots := 12, locals := 133 }, some [(0, 10, 13, 24)], "level")
abbrev M_L_onHand : zM := (RL, cL_onHand, 5, (some .int), { frames := 8, cells := 2, slots := 12, locals := 133 }, some [(0, 10, 13, 24)], "onHand")
abbrev M_L_waiting : zM := (RL, cL_waiting, 5, (some .int), { frames := 8, cells := 2, slots := 12, locals := 133 }, some [(0, 10, 13, 24)], "waiting")
abbrev M_L_topPriority : zM := (RL, cL_topPriority, 5, (some .int), { frames := 8, cells := 2, slots := 12, locals := 134 }, some [(0, 10, 13, 24)], "topPriority")
abbrev M_L_keptOrders : zM := (RL, cL_keptOrders, 4, (some .int), { frames := 8, cells := 1, slots := 6, locals := 132 }, some [(0, 9, 12, 24)], "keptOrders")
abbrev M_L_dueIn : zM := (RL, cL_dueIn, 5, (some .int), { frames := 8, cells := 2, slots := 12, locals := 133 }, some [(0, 10, 13, 24)], "dueIn")
abbrev M_L_position : zM := (RL, cL_position, 5, (some .int), { frames := 8, cells := 2, slots := 12, locals := 133 }, some [(0, 10, 13, 24)], "position")
abbrev M_L_underWay : zM := (RL, cL_underWay, 5, (some .int), { frames := 8, cells := 2, slots := 12, locals := 134 }, some [(0, 10, 13, 24), (0, 10, 17, 13)], "underWay")
abbrev M_L_fleet : zM := (RL, cL_fleet, 4, (some .int), { frames := 8, cells := 1, slots := 6, locals := 134 }, some [(0, 9, 12, 24)], "fleet")
abbrev M_L_nextArrival : zM := (RL, cL_nextArrival, 5, (some .int), { frames := 8, cells := 2, slots := 12, locals := 134 }, some [(0, 10, 13, 24)], "nextArrival")
abbrev M_L_dueDay : zM := (RL, cL_dueDay, 4, (some .int), { frames := 8, cells := 1, slots := 6, locals := 132 }, some [(0, 9, 12, 24)], "dueDay")
abbrev M_L_dueKind : zM := (RL, cL_dueKind, 4, (some .int), { frames := 8, cells := 1, slots := 6, locals := 132 }, some [(0, 9, 12, 24)], "dueKind")
abbrev M_L_dueItem : zM := (RL, cL_dueItem, 4, (some .int), { frames := 8, cells := 1, slots := 6, locals := 132 }, some [(0, 9, 12, 24)], "dueItem")
abbrev M_L_dueSite : zM := (RL, cL_dueSite, 4, (some .int), { frames := 8, cells := 1, slots := 6, locals := 132 }, some [(0, 9, 12, 24)], "dueSite")
abbrev M_L_dueOwner : zM := (RL, cL_dueOwner, 4, (some .int), { frames := 8, cells := 1, slots := 6, locals := 132 }, some [(0, 9, 12, 24)], "dueOwner")
abbrev M_L_demands : zM := (RL, cL_demands, 5, (some .int), { frames := 9, cells := 2, slots := 12, locals := 155 }, some [(0, 10, 13, 24)], "demands")
abbrev M_L_fillNumerator : zM := (RL, cL_fillNumerator, 5, (some .int), { frames := 9, cells := 2, slots := 12, locals := 156 }, some [(0, 10, 13, 24)], "fillNumerator")
abbrev M_L_fillDenominator : zM := (RL, cL_fillDenominator, 5, (some .int), { frames := 9, cells := 2, slots := 12, locals := 157 }, some [(0, 10, 13, 24)], "fillDenominator")
abbrev M_L_delays : zM := (RL, cL_delays, 5, (some .int), { frames := 9, cells := 2, slots := 12, locals := 155 }, some [(0, 10, 13, 24)], "delays")
abbrev M_L_backorderDays : zM := (RL, cL_backorderDays, 5, (some .int), { frames := 9, cells := 2, slots := 12, locals := 155 }, some [(0, 10, 13, 24)], "backorderDays")
abbrev M_L_helped : zM := (RL, cL_helped, 5, (some .int), { frames := 9, cells := 2, slots := 12, locals := 155 }, some [(0, 10, 13, 24)], "helped")
abbrev M_L_bestSite : zM := (RL, cL_bestSite, 6, (some .int), { frames := 8, cells := 4, slots := 24, locals := 177 }, some [(0, 12, 15, 24), (0, 12, 19, 13), (0, 12, 23, 15)], "bestSite")
abbrev M_L_appendText : zM := (RL, cL_appendText, 4, (some .int), { frames := 7, cells := 1, slots := 6, locals := 111 }, some [(0, 9, 12, 15)], "appendText")
abbrev M_L_truncateText : zM := (RL, cL_truncateText, 4, (some .int), { frames := 8, cells := 1, slots := 6, locals := 133 }, some [(0, 9, 12, 13)], "truncateText")
abbrev M_L_save : zM := (RL, cL_save, 3, (some .int), { frames := 8, cells := 42, slots := 5860, locals := 134 }, some [(0, 5, 8, 13)], "save")
abbrev M_L_restore : zM := (RL, cL_restore, 3, (some .int), { frames := 8, cells := 2, slots := 12, locals := 134 }, some [(0, 5, 8, 13), (0, 5, 11, 15)], "restore")
theorem f_RX8_7 : zFL RX8 7 8 0 := ⟨q_5_150, by decide, by decide⟩
theorem f_RX8_13 : zFL RX8 13 8 1 := ⟨q_5_151, by decide, by decide⟩
theorem f_RX8_16 : zFL RX8 16 8 2 := ⟨q_5_152, by decide, by decide⟩
theorem f_RX8_19 : zFL RX8 19 8 3 := ⟨q_5_153, by decide, by decide⟩
theorem f_RX8_23 : zFL RX8 23 8 6 := ⟨q_5_156, by decide, by decide⟩
theorem f_RX8_26 : zFL RX8 26 8 14 := ⟨q_5_164, by decide, by decide⟩
theorem f_RX8_30 : zFL RX8 30 8 4 := ⟨q_5_154, by decide, by decide⟩
theorem k_RX8_37 : zKV RX8 37 8 yX8_append M_X8_append 3 := ⟨q_5_219, q_5_221, q_s_32, q_1_9, q_5_222, ⟨by decide +kernel, by decide +kernel⟩, by decide +kernel⟩
theorem k_RX8_33 : zKS RX8 33 yX8_isBetween M_X8_isBetween 3 := ⟨q_5_208, q_5_209, q_1_9, q_5_210, ⟨by decide +kernel, by decide +kernel⟩, by decide +kernel⟩
theorem k_RX8_41 : zKV RX8 41 8 yX8_fail M_X8_fail 1 := ⟨q_5_211, q_5_213, q_s_30, q_1_9, q_5_214, ⟨by decide +kernel, by decide +kernel⟩, by decide +kernel⟩
theorem k_RX8_45 : zKV RX8 45 8 yX8_appendItem M_X8_appendItem 3 := ⟨q_5_215, q_5_217, q_s_31, q_1_9, q_5_218, ⟨by decide +kernel, by decide +kernel⟩, by decide +kernel⟩
theorem k_RX8_48 : zKV RX8 48 8 yX8_appendBase M_X8_appendBase 1 := ⟨q_5_227, q_5_229, q_s_33, q_1_9, q_5_230, ⟨by decide +kernel, by decide +kernel⟩, by decide +kernel⟩
theorem k_RX8_51 : zKV RX8 51 8 yX8_link M_X8_link 2 := ⟨q_6_11, q_6_13, q_s_36, q_1_9, q_6_14, ⟨by decide +kernel, by decide +kernel⟩, by decide +kernel⟩
theorem k_RX8_55 : zKV RX8 55 8 yX8_isBase M_X8_isBase 1 := ⟨q_6_3, q_6_5, q_s_34, q_1_9, q_6_6, ⟨by decide +kernel, by decide +kernel⟩, by decide +kernel⟩
theorem k_RX8_59 : zKV RX8 59 8 yX8_putLink M_X8_putLink 3 := ⟨q_6_7, q_6_9, q_s_35, q_1_9, q_6_10, ⟨by decide +kernel, by decide +kernel⟩, by decide +kernel⟩
theorem k_RX8_92 : zKV RX8 92 8 yX8_appendUnit M_X8_appendUnit 6 := ⟨q_6_50, q_6_52, q_s_44, q_1_9, q_6_53, ⟨by decide +kernel, by decide +kernel⟩, by decide +kernel⟩
theorem k_RX8_96 : zKV RX8 96 8 yX8_order M_X8_order 2 := ⟨q_6_38, q_6_40, q_s_41, q_1_9, q_6_41, ⟨by decide +kernel, by decide +kernel⟩, by decide +kernel⟩
theorem k_RX8_99 : zKV RX8 99 8 yX8_remove M_X8_remove 4 := ⟨q_6_42, q_6_44, q_s_42, q_1_9, q_6_45, ⟨by decide +kernel, by decide +kernel⟩, by decide +kernel⟩
theorem k_RX8_103 : zKV RX8 103 8 yX8_supply M_X8_supply 2 := ⟨q_6_46, q_6_48, q_s_43, q_1_9, q_6_49, ⟨by decide +kernel, by decide +kernel⟩, by decide +kernel⟩
theorem k_RX8_62 : zKS RX8 62 yX8_at M_X8_at 3 := ⟨q_6_27, q_6_28, q_1_9, q_6_29, ⟨by decide +kernel, by decide +kernel⟩, by decide +kernel⟩
theorem k_RX8_106 : zKV RX8 106 8 yX8_customer M_X8_customer 2 := ⟨q_6_66, q_6_68, q_s_48, q_1_9, q_6_69, ⟨by decide +kernel, by decide +kernel⟩, by decide +kernel⟩
theorem k_RX8_109 : zKV RX8 109 8 yX8_isCustomer M_X8_isCustomer 3 := ⟨q_6_62, q_6_64, q_s_47, q_1_9, q_6_65, ⟨by decide +kernel, by decide +kernel⟩, by decide +kernel⟩
theorem k_RX8_112 : zKV RX8 112 8 yX8_bestCustomer M_X8_bestCustomer 2 := ⟨q_6_58, q_6_60, q_s_46, q_1_9, q_6_61, ⟨by decide +kernel, by decide +kernel⟩, by decide +kernel⟩
theorem k_RX8_69 : zKV RX8 69 8 yX8_comeToBase M_X8_comeToBase 2 := ⟨q_6_54, q_6_56, q_s_45, q_1_9, q_6_57, ⟨by decide +kernel, by decide +kernel⟩, by decide +kernel⟩
theorem k_RX8_65 : zKV RX8 65 8 yX8_fillOrder M_X8_fillOrder 1 := ⟨q_6_34, q_6_36, q_s_40, q_1_9, q_6_37, ⟨by decide +kernel, by decide +kernel⟩, by decide +kernel⟩
theorem k_RX8_78 : zKV RX8 78 8 yX8_isSite M_X8_isSite 1 := ⟨q_6_19, q_6_21, q_s_37, q_1_9, q_6_22, ⟨by decide +kernel, by decide +kernel⟩, by decide +kernel⟩
theorem k_RX8_81 : zKV RX8 81 8 yX8_isItem M_X8_isItem 1 := ⟨q_6_23, q_6_25, q_s_38, q_1_9, q_6_26, ⟨by decide +kernel, by decide +kernel⟩, by decide +kernel⟩
theorem k_RX8_84 : zKV RX8 84 8 yX8_putLevel M_X8_putLevel 3 := ⟨q_6_30, q_6_32, q_s_39, q_1_9, q_6_33, ⟨by decide +kernel, by decide +kernel⟩, by decide +kernel⟩
theorem k_RX8_88 : zKV RX8 88 8 yX8_setNumber M_X8_setNumber 5 := ⟨q_6_75, q_6_77, q_s_49, q_1_9, q_6_78, ⟨by decide +kernel, by decide +kernel⟩, by decide +kernel⟩
theorem k_RX8_115 : zKV RX8 115 8 yX8_findHelper M_X8_findHelper 2 := ⟨q_6_111, q_6_113, q_s_54, q_1_9, q_6_114, ⟨by decide +kernel, by decide +kernel⟩, by decide +kernel⟩
theorem k_RX8_118 : zKV RX8 118 8 yX8_appendCustomer M_X8_appendCustomer 3 := ⟨q_6_103, q_6_105, q_s_52, q_1_9, q_6_106, ⟨by decide +kernel, by decide +kernel⟩, by decide +kernel⟩
theorem k_RX8_121 : zKV RX8 121 8 yX8_findBuyer M_X8_findBuyer 2 := ⟨q_6_107, q_6_109, q_s_53, q_1_9, q_6_110, ⟨by decide +kernel, by decide +kernel⟩, by decide +kernel⟩
theorem k_RX8_127 : zKV RX8 127 8 yX8_placeOrder M_X8_placeOrder 3 := ⟨q_6_119, q_6_121, q_s_56, q_1_9, q_6_122, ⟨by decide +kernel, by decide +kernel⟩, by decide +kernel⟩
theorem k_RX8_124 : zKV RX8 124 8 yX8_item M_X8_item 2 := ⟨q_6_115, q_6_117, q_s_55, q_1_9, q_6_118, ⟨by decide +kernel, by decide +kernel⟩, by decide +kernel⟩
theorem k_RX8_134 : zKV RX8 134 8 yX8_occur M_X8_occur 3 := ⟨q_6_99, q_6_101, q_s_51, q_1_9, q_6_102, ⟨by decide +kernel, by decide +kernel⟩, by decide +kernel⟩
theorem k_RX8_130 : zKV RX8 130 8 yX8_isRefused M_X8_isRefused 0 := ⟨q_6_95, q_6_97, q_s_50, q_1_9, q_6_98, ⟨by decide +kernel, by decide +kernel⟩, by decide +kernel⟩
theorem k_RX8_137 : zKV RX8 137 8 yX8_unit M_X8_unit 2 := ⟨q_6_135, q_6_137, q_s_59, q_1_9, q_6_138, ⟨by decide +kernel, by decide +kernel⟩, by decide +kernel⟩
theorem k_RX8_140 : zKV RX8 140 8 yX8_unitsAt M_X8_unitsAt 3 := ⟨q_6_147, q_6_149, q_s_62, q_1_9, q_6_150, ⟨by decide +kernel, by decide +kernel⟩, by decide +kernel⟩
theorem k_RX8_143 : zKV RX8 143 8 yX8_repairAtDepot M_X8_repairAtDepot 1 := ⟨q_6_151, q_6_153, q_s_63, q_1_9, q_6_154, ⟨by decide +kernel, by decide +kernel⟩, by decide +kernel⟩
theorem k_RX8_152 : zKV RX8 152 8 yX8_endLocalRepair M_X8_endLocalRepair 4 := ⟨q_6_159, q_6_161, q_s_65, q_1_9, q_6_162, ⟨by decide +kernel, by decide +kernel⟩, by decide +kernel⟩
theorem k_RX8_149 : zKV RX8 149 8 yX8_endDepotRepair M_X8_endDepotRepair 1 := ⟨q_6_155, q_6_157, q_s_64, q_1_9, q_6_158, ⟨by decide +kernel, by decide +kernel⟩, by decide +kernel⟩
theorem k_RX8_146 : zKV RX8 146 8 yX8_endReturn M_X8_endReturn 1 := ⟨q_6_143, q_6_145, q_s_61, q_1_9, q_6_146, ⟨by decide +kernel, by decide +kernel⟩, by decide +kernel⟩
theorem k_RX8_155 : zKV RX8 155 8 yX8_firstDue M_X8_firstDue 1 := ⟨q_6_131, q_6_133, q_s_58, q_1_9, q_6_134, ⟨by decide +kernel, by decide +kernel⟩, by decide +kernel⟩
theorem k_RX8_158 : zKV RX8 158 8 yX8_end M_X8_end 1 := ⟨q_6_139, q_6_141, q_s_60, q_1_9, q_6_142, ⟨by decide +kernel, by decide +kernel⟩, by decide +kernel⟩
theorem k_RX8_161 : zKV RX8 161 8 yX8_beginDay M_X8_beginDay 0 := ⟨q_6_127, q_6_129, q_s_57, q_1_9, q_6_130, ⟨by decide +kernel, by decide +kernel⟩, by decide +kernel⟩
theorem f_RX8_164 : zFL RX8 164 8 5 := ⟨q_5_155, by decide, by decide⟩
theorem k_RX8_176 : zKV RX8 176 8 yX8_draw M_X8_draw 1 := ⟨q_6_175, q_6_177, q_s_68, q_1_9, q_6_178, ⟨by decide +kernel, by decide +kernel⟩, by decide +kernel⟩
theorem k_RX8_179 : zKV RX8 179 8 yX8_drawDemand M_X8_drawDemand 2 := ⟨q_6_171, q_6_173, q_s_67, q_1_9, q_6_174, ⟨by decide +kernel, by decide +kernel⟩, by decide +kernel⟩
theorem k_RX8_183 : zKV RX8 183 8 yX8_runDays M_X8_runDays 2 := ⟨q_6_167, q_6_169, q_s_66, q_1_9, q_6_170, ⟨by decide +kernel, by decide +kernel⟩, by decide +kernel⟩
theorem k_RX8_186 : zKV RX8 186 8 yX8_waitingOf M_X8_waitingOf 2 := ⟨q_6_203, q_6_205, q_s_69, q_1_9, q_6_206, ⟨by decide +kernel, by decide +kernel⟩, by decide +kernel⟩
theorem k_RX8_189 : zKV RX8 189 8 yX8_dueInOf M_X8_dueInOf 2 := ⟨q_6_219, q_6_221, q_s_70, q_1_9, q_6_222, ⟨by decide +kernel, by decide +kernel⟩, by decide +kernel⟩
theorem k_RX8_192 : zKV RX8 192 8 yX8_countDue M_X8_countDue 0 := ⟨q_7_3, q_7_5, q_s_71, q_1_9, q_7_6, ⟨by decide +kernel, by decide +kernel⟩, by decide +kernel⟩
theorem k_RX8_199 : zKV RX8 199 8 yX8_isAhead M_X8_isAhead 2 := ⟨q_7_23, q_7_25, q_s_75, q_1_9, q_7_26, ⟨by decide +kernel, by decide +kernel⟩, by decide +kernel⟩
theorem k_RX8_196 : zKV RX8 196 8 yX8_countAhead M_X8_countAhead 1 := ⟨q_7_19, q_7_21, q_s_74, q_1_9, q_7_22, ⟨by decide +kernel, by decide +kernel⟩, by decide +kernel⟩
theorem k_RX8_202 : zKV RX8 202 8 yX8_unitAt M_X8_unitAt 1 := ⟨q_7_15, q_7_17, q_s_73, q_1_9, q_7_18, ⟨by decide +kernel, by decide +kernel⟩, by decide +kernel⟩
theorem k_RX8_205 : zKV RX8 205 8 yX8_dueField M_X8_dueField 2 := ⟨q_7_11, q_7_13, q_s_72, q_1_9, q_7_14, ⟨by decide +kernel, by decide +kernel⟩, by decide +kernel⟩
theorem k_RX8_208 : zKV RX8 208 8 yX8_areMeant M_X8_areMeant 2 := ⟨q_7_51, q_7_53, q_s_77, q_1_9, q_7_54, ⟨by decide +kernel, by decide +kernel⟩, by decide +kernel⟩
theorem k_RX8_211 : zKV RX8 211 8 yX8_sum M_X8_sum 3 := ⟨q_7_55, q_7_57, q_s_78, q_1_9, q_7_58, ⟨by decide +kernel, by decide +kernel⟩, by decide +kernel⟩
theorem k_RX8_214 : zKV RX8 214 8 yX8_figure M_X8_figure 3 := ⟨q_7_47, q_7_49, q_s_76, q_1_9, q_7_50, ⟨by decide +kernel, by decide +kernel⟩, by decide +kernel⟩
theorem k_RX8_217 : zKS RX8 217 yX8_commonDivisor M_X8_commonDivisor 2 := ⟨q_7_67, q_7_68, q_1_9, q_7_69, ⟨by decide +kernel, by decide +kernel⟩, by decide +kernel⟩
theorem k_RX8_220 : zKV RX8 220 8 yX8_fillRate M_X8_fillRate 3 := ⟨q_7_63, q_7_65, q_s_79, q_1_9, q_7_66, ⟨by decide +kernel, by decide +kernel⟩, by decide +kernel⟩
theorem k_RX8_224 : zKS RX8 224 yX8_copy M_X8_copy 4 := ⟨q_7_90, q_7_91, q_1_9, q_7_92, ⟨by decide +kernel, by decide +kernel⟩, by decide +kernel⟩
theorem f_RX8_228 : zFL RX8 228 8 7 := ⟨q_5_157, by decide, by decide⟩
theorem f_RX8_231 : zFL RX8 231 8 8 := ⟨q_5_158, by decide, by decide⟩
theorem k_RX8_234 : zKV RX8 234 8 yX8_byteAt M_X8_byteAt 1 := ⟨q_7_113, q_7_115, q_s_82, q_1_9, q_7_116, ⟨by decide +kernel, by decide +kernel⟩, by decide +kernel⟩
theorem f_RX8_237 : zFL RX8 237 8 9 := ⟨q_5_159, by decide, by decide⟩
theorem f_RX8_240 : zFL RX8 240 8 11 := ⟨q_5_161, by decide, by decide⟩
theorem f_RX8_243 : zFL RX8 243 8 15 := ⟨q_5_165, by decide, by decide⟩
theorem f_RX8_246 : zFL RX8 246 8 12 := ⟨q_5_162, by decide, by decide⟩
theorem k_RX8_252 : zKS RX8 252 yX8_isLetter M_X8_isLetter 1 := ⟨q_7_117, q_7_118, q_1_9, q_7_119, ⟨by decide +kernel, by decide +kernel⟩, by decide +kernel⟩
theorem k_RX8_259 : zKS RX8 259 yX8_isDigit M_X8_isDigit 1 := ⟨q_7_122, q_7_123, q_1_9, q_7_124, ⟨by decide +kernel, by decide +kernel⟩, by decide +kernel⟩
theorem f_RX8_249 : zFL RX8 249 8 10 := ⟨q_5_160, by decide, by decide⟩
theorem ks_RX8_262 : zKT RX8 262 yJ0_length_8abf5 M_J0_length 0 := ⟨q_7_134, by decide +kernel, by decide +kernel, by decide +kernel, by decide +kernel, ⟨by decide +kernel, by decide +kernel⟩, by decide +kernel⟩
theorem ks_RX8_267 : zKT RX8 267 yJ0_charAt_5068e M_J0_charAt 1 := ⟨q_7_135, by decide +kernel, by decide +kernel, by decide +kernel, by decide +kernel, ⟨by decide +kernel, by decide +kernel⟩, by decide +kernel⟩
theorem f_RX8_271 : zFL RX8 271 8 13 := ⟨q_5_163, by decide, by decide⟩
theorem k_RX8_274 : zKV RX8 274 8 yX8_nextToken M_X8_nextToken 0 := ⟨q_7_109, q_7_111, q_s_81, q_1_9, q_7_112, ⟨by decide +kernel, by decide +kernel⟩, by decide +kernel⟩
theorem k_RX8_277 : zKV RX8 277 8 yX8_require M_X8_require 2 := ⟨q_7_140, q_7_142, q_s_86, q_1_9, q_7_143, ⟨by decide +kernel, by decide +kernel⟩, by decide +kernel⟩
theorem k_RX8_281 : zKV RX8 281 8 yX8_advanceToken M_X8_advanceToken 0 := ⟨q_7_144, q_7_146, q_s_87, q_1_9, q_7_147, ⟨by decide +kernel, by decide +kernel⟩, by decide +kernel⟩
theorem k_RX8_284 : zKV RX8 284 8 yX8_parseNumber M_X8_parseNumber 2 := ⟨q_7_148, q_7_150, q_s_88, q_1_9, q_7_151, ⟨by decide +kernel, by decide +kernel⟩, by decide +kernel⟩
theorem k_RX8_287 : zKV RX8 287 8 yX8_parseItem M_X8_parseItem 0 := ⟨q_7_162, q_7_164, q_s_91, q_1_9, q_7_165, ⟨by decide +kernel, by decide +kernel⟩, by decide +kernel⟩
theorem k_RX8_290 : zKV RX8 290 8 yX8_parseBase M_X8_parseBase 0 := ⟨q_7_171, q_7_173, q_s_93, q_1_9, q_7_174, ⟨by decide +kernel, by decide +kernel⟩, by decide +kernel⟩
theorem k_RX8_294 : zKV RX8 294 8 yX8_isWord M_X8_isWord 1 := ⟨q_7_130, q_7_132, q_s_84, q_1_9, q_7_133, ⟨by decide +kernel, by decide +kernel⟩, by decide +kernel⟩
theorem k_RX8_317 : zKV RX8 317 8 yX8_parseNumberStatement M_X8_parseNumberStatement 2 := ⟨q_7_176, q_7_178, q_s_94, q_1_9, q_7_179, ⟨by decide +kernel, by decide +kernel⟩, by decide +kernel⟩
theorem k_RX8_312 : zKV RX8 312 8 yX8_parseLinkStatement M_X8_parseLinkStatement 0 := ⟨q_7_167, q_7_169, q_s_92, q_1_9, q_7_170, ⟨by decide +kernel, by decide +kernel⟩, by decide +kernel⟩
theorem k_RX8_308 : zKV RX8 308 8 yX8_parseLevelStatement M_X8_parseLevelStatement 0 := ⟨q_7_158, q_7_160, q_s_90, q_1_9, q_7_161, ⟨by decide +kernel, by decide +kernel⟩, by decide +kernel⟩
theorem k_RX8_303 : zKV RX8 303 8 yX8_parseBaseStatement M_X8_parseBaseStatement 0 := ⟨q_7_153, q_7_155, q_s_89, q_1_9, q_7_156, ⟨by decide +kernel, by decide +kernel⟩, by decide +kernel⟩
theorem k_RX8_298 : zKV RX8 298 8 yX8_parseItemStatement M_X8_parseItemStatement 0 := ⟨q_7_136, q_7_138, q_s_85, q_1_9, q_7_139, ⟨by decide +kernel, by decide +kernel⟩, by decide +kernel⟩
theorem k_RX8_326 : zKV RX8 326 8 yX8_clearNetwork M_X8_clearNetwork 0 := ⟨q_7_105, q_7_107, q_s_80, q_1_9, q_7_108, ⟨by decide +kernel, by decide +kernel⟩, by decide +kernel⟩
theorem k_RX8_329 : zKV RX8 329 8 yX8_parseStatement M_X8_parseStatement 0 := ⟨q_7_125, q_7_127, q_s_83, q_1_9, q_7_128, ⟨by decide +kernel, by decide +kernel⟩, by decide +kernel⟩
theorem f_RX4_9 : zFL RX4 9 4 1 := ⟨q_1_47, by decide, by decide⟩
theorem f_RX4_15 : zFL RX4 15 4 3 := ⟨q_1_55, by decide, by decide⟩
theorem f_RX4_19 : zFL RX4 19 4 4 := ⟨q_1_57, by decide, by decide⟩
theorem f_RX4_22 : zFL RX4 22 4 5 := ⟨q_1_59, by decide, by decide⟩
theorem f_RX4_25 : zFL RX4 25 4 6 := ⟨q_1_61, by decide, by decide⟩
theorem f_RX4_28 : zFL RX4 28 4 7 := ⟨q_1_63, by decide, by decide⟩
theorem f_RX4_31 : zFL RX4 31 4 8 := ⟨q_1_64, by decide, by decide⟩
theorem f_RX4_34 : zFL RX4 34 4 9 := ⟨q_1_68, by decide, by decide⟩
theorem f_RX4_37 : zFL RX4 37 4 10 := ⟨q_1_72, by decide, by decide⟩
theorem f_RX0_9 : zFL RX0 9 0 1 := ⟨q_1_109, by decide, by decide⟩
theorem f_RX0_15 : zFL RX0 15 0 2 := ⟨q_1_112, by decide, by decide⟩
theorem f_RX0_18 : zFL RX0 18 0 3 := ⟨q_1_115, by decide, by decide⟩
theorem f_RX0_21 : zFL RX0 21 0 4 := ⟨q_1_118, by decide, by decide⟩
theorem f_RX0_24 : zFL RX0 24 0 5 := ⟨q_1_121, by decide, by decide⟩
theorem f_RX6_9 : zFL RX6 9 6 1 := ⟨q_1_146, by decide, by decide⟩
theorem f_RX6_15 : zFL RX6 15 6 2 := ⟨q_1_149, by decide, by decide⟩
theorem f_RX6_18 : zFL RX6 18 6 3 := ⟨q_1_152, by decide, by decide⟩
theorem f_RX6_21 : zFL RX6 21 6 4 := ⟨q_1_155, by decide, by decide⟩
theorem f_RX6_24 : zFL RX6 24 6 5 := ⟨q_1_158, by decide, by decide⟩
theorem f_RX6_27 : zFL RX6 27 6 6 := ⟨q_1_161, by decide, by decide⟩
theorem f_RX3_9 : zFL RX3 9 3 1 := ⟨q_1_186, by decide, by decide⟩
theorem f_RX3_15 : zFL RX3 15 3 2 := ⟨q_1_188, by decide, by decide⟩
theorem f_RX3_18 : zFL RX3 18 3 3 := ⟨q_1_190, by decide, by decide⟩
theorem f_RX3_21 : zFL RX3 21 3 4 := ⟨q_1_192, by decide, by decide⟩
theorem f_RX2_9 : zFL RX2 9 2 1 := ⟨q_1_217, by decide, by decide⟩
theorem f_RX2_15 : zFL RX2 15 2 2 := ⟨q_1_219, by decide, by decide⟩
theorem k_RX2_20 : zKI RX2 20 yX4_init M_X4_init 0 := ⟨q_1_39, q_1_40, q_1_3, q_1_41, ⟨by decide +kernel, by decide +kernel⟩, by decide +kernel, rfl, rfl⟩
theorem f_RX2_21 : zFL RX2 21 2 3 := ⟨q_1_221, by decide, by decide⟩
theorem k_RX2_27 : zKI RX2 27 yX0_init M_X0_init 0 := ⟨q_1_102, q_1_103, q_1_4, q_1_104, ⟨by decide +kernel, by decide +kernel⟩, by decide +kernel, rfl, rfl⟩
theorem f_RX2_28 : zFL RX2 28 2 4 := ⟨q_1_224, by decide, by decide⟩
theorem k_RX2_34 : zKI RX2 34 yX6_init M_X6_init 0 := ⟨q_1_139, q_1_140, q_1_5, q_1_141, ⟨by decide +kernel, by decide +kernel⟩, by decide +kernel, rfl, rfl⟩
theorem f_RX2_35 : zFL RX2 35 2 5 := ⟨q_1_226, by decide, by decide⟩
theorem k_RX2_41 : zKI RX2 41 yX3_init M_X3_init 0 := ⟨q_1_180, q_1_181, q_1_6, q_1_182, ⟨by decide +kernel, by decide +kernel⟩, by decide +kernel, rfl, rfl⟩
theorem f_RX2_42 : zFL RX2 42 2 6 := ⟨q_1_228, by decide, by decide⟩
theorem f_RX2_46 : zFL RX2 46 2 7 := ⟨q_1_229, by decide, by decide⟩
theorem f_RX2_49 : zFL RX2 49 2 8 := ⟨q_1_231, by decide, by decide⟩
theorem k_RX2_54 : zKIN RX2 54 RX7 yX1_init M_X1_init 0 := ⟨q_1_207, q_1_208, q_1_7, q_1_209, ⟨by decide +kernel, by decide +kernel⟩, by decide +kernel, rfl, rfl⟩
theorem f_RX2_55 : zFL RX2 55 2 9 := ⟨q_1_233, by decide, by decide⟩
theorem f_RX4_40 : zFL RX4 40 4 0 := ⟨q_1_43, by decide, by decide⟩
theorem f_RX4_43 : zFL RX4 43 4 2 := ⟨q_1_51, by decide, by decide⟩
theorem k_RX4_46 : zKS RX4 46 yJ7_fill_53178 M_J7_fill_53178 2 := ⟨q_2_102, q_2_96, q_1_18, q_2_97, ⟨by decide +kernel, by decide +kernel⟩, by decide +kernel⟩
theorem f_RX0_27 : zFL RX0 27 0 0 := ⟨q_1_106, by decide, by decide⟩
theorem k_RX0_31 : zKS RX0 31 yJ7_fill_53178 M_J7_fill_53178 2 := ⟨q_2_107, q_2_96, q_1_18, q_2_97, ⟨by decide +kernel, by decide +kernel⟩, by decide +kernel⟩
theorem f_RX2_59 : zFL RX2 59 2 0 := ⟨q_1_215, by decide, by decide⟩
theorem k_RX2_63 : zKS RX2 63 yJ7_fill_53178 M_J7_fill_53178 2 := ⟨q_2_95, q_2_96, q_1_18, q_2_97, ⟨by decide +kernel, by decide +kernel⟩, by decide +kernel⟩
theorem k_RX2_69 : zKV RX2 69 4 yX4_clear M_X4_clear 0 := ⟨q_2_98, q_2_99, q_2_100, q_1_3, q_2_101, ⟨by decide +kernel, by decide +kernel⟩, by decide +kernel⟩
theorem k_RX2_72 : zKV RX2 72 0 yX0_clear M_X0_clear 0 := ⟨q_2_103, q_2_104, q_2_105, q_1_4, q_2_106, ⟨by decide +kernel, by decide +kernel⟩, by decide +kernel⟩
theorem f_RX2_73 : zFL RX2 73 6 0 := ⟨q_1_144, by decide, by decide⟩
theorem f_RX2_76 : zFL RX2 76 3 0 := ⟨q_1_185, by decide, by decide⟩
theorem f_RX3_24 : zFL RX3 24 3 0 := ⟨q_1_184, by decide, by decide⟩
theorem f_RX6_30 : zFL RX6 30 6 0 := ⟨q_1_143, by decide, by decide⟩
theorem k_RX6_38 : zKV RX6 38 6 yX6_move M_X6_move 2 := ⟨q_3_33, q_3_35, q_s_12, q_1_5, q_3_36, ⟨by decide +kernel, by decide +kernel⟩, by decide +kernel⟩
theorem k_RX2_177 : zKV RX2 177 3 yX3_firstOf M_X3_firstOf 2 := ⟨q_3_21, q_3_22, q_3_23, q_1_6, q_3_24, ⟨by decide +kernel, by decide +kernel⟩, by decide +kernel⟩
theorem f_RX2_180 : zFL RX2 180 3 1 := ⟨q_1_187, by decide, by decide⟩
theorem k_RX2_183 : zKV RX2 183 3 yX3_remove M_X3_remove 1 := ⟨q_3_25, q_3_26, q_3_27, q_1_6, q_3_28, ⟨by decide +kernel, by decide +kernel⟩, by decide +kernel⟩
theorem f_RX2_154 : zFL RX2 154 4 6 := ⟨q_1_62, by decide, by decide⟩
theorem k_RX2_151 : zKV RX2 151 6 yX6_add M_X6_add 6 := ⟨q_3_29, q_3_30, q_3_31, q_1_5, q_3_32, ⟨by decide +kernel, by decide +kernel⟩, by decide +kernel⟩
theorem k_RX2_110 : zKSN RX2 110 RX7 yX7_cell M_X7_cell 2 := ⟨q_3_14, q_3_15, q_1_1, q_3_16, ⟨by decide +kernel, by decide +kernel⟩, by decide +kernel⟩
theorem f_RX2_186 : zFL RX2 186 0 3 := ⟨q_1_116, by decide, by decide⟩
theorem f_RX2_189 : zFL RX2 189 3 4 := ⟨q_1_193, by decide, by decide⟩
theorem k_RX2_117 : zKV RX2 117 2 yX2_stockBase M_X2_stockBase 2 := ⟨q_3_37, q_3_39, q_s_13, q_1_2, q_3_40, ⟨by decide +kernel, by decide +kernel⟩, by decide +kernel⟩
theorem k_RX2_113 : zKV RX2 113 2 yX2_stockDepot M_X2_stockDepot 1 := ⟨q_3_17, q_3_19, q_s_11, q_1_2, q_3_20, ⟨by decide +kernel, by decide +kernel⟩, by decide +kernel⟩
theorem k_RX2_148 : zKV RX2 148 4 yX4_linkTime M_X4_linkTime 2 := ⟨q_4_39, q_3_191, q_3_192, q_1_3, q_3_193, ⟨by decide +kernel, by decide +kernel⟩, by decide +kernel⟩
theorem f_RX2_171 : zFL RX2 171 4 2 := ⟨q_1_53, by decide, by decide⟩
theorem f_RX2_174 : zFL RX2 174 4 8 := ⟨q_1_66, by decide, by decide⟩
theorem f_RX2_104 : zFL RX2 104 4 1 := ⟨q_1_50, by decide, by decide⟩
theorem k_RX2_163 : zKV RX2 163 2 yX2_canHelp M_X2_canHelp 3 := ⟨q_4_35, q_4_37, q_s_19, q_1_2, q_4_38, ⟨by decide +kernel, by decide +kernel⟩, by decide +kernel⟩
theorem k_RX2_167 : zKV RX2 167 2 yX2_helpsBetter M_X2_helpsBetter 4 := ⟨q_4_40, q_4_42, q_s_20, q_1_2, q_4_43, ⟨by decide +kernel, by decide +kernel⟩, by decide +kernel⟩
theorem f_RX2_160 : zFL RX2 160 0 5 := ⟨q_1_122, by decide, by decide⟩
theorem k_RX2_134 : zKV RX2 134 3 yX3_add M_X3_add 4 := ⟨q_4_27, q_4_28, q_4_29, q_1_6, q_4_30, ⟨by decide +kernel, by decide +kernel⟩, by decide +kernel⟩
theorem f_RX2_121 : zFL RX2 121 0 1 := ⟨q_1_110, by decide, by decide⟩
theorem f_RX2_124 : zFL RX2 124 4 9 := ⟨q_1_70, by decide, by decide⟩
theorem k_RX2_127 : zKS RX2 127 yX2_isRepairedLocally M_X2_isRepairedLocally 2 := ⟨q_4_24, q_4_25, q_1_2, q_4_26, ⟨by decide +kernel, by decide +kernel⟩, by decide +kernel⟩
theorem k_RX2_138 : zKV RX2 138 2 yX2_findHelper M_X2_findHelper 2 := ⟨q_4_31, q_4_33, q_s_18, q_1_2, q_4_34, ⟨by decide +kernel, by decide +kernel⟩, by decide +kernel⟩
theorem k_RX2_157 : zKV RX2 157 2 yX2_order M_X2_order 3 := ⟨q_4_48, q_4_50, q_s_22, q_1_2, q_4_51, ⟨by decide +kernel, by decide +kernel⟩, by decide +kernel⟩
theorem f_RX2_145 : zFL RX2 145 4 5 := ⟨q_1_60, by decide, by decide⟩
theorem k_RX2_141 : zKV RX2 141 2 yX2_sendHelp M_X2_sendHelp 3 := ⟨q_4_44, q_4_46, q_s_21, q_1_2, q_4_47, ⟨by decide +kernel, by decide +kernel⟩, by decide +kernel⟩
theorem f_RX2_131 : zFL RX2 131 0 2 := ⟨q_1_113, by decide, by decide⟩
theorem k_RX2_223 : zKV RX2 223 6 yX6_countDepotRepairs M_X6_countDepotRepairs 1 := ⟨q_4_80, q_4_81, q_4_82, q_1_5, q_4_83, ⟨by decide +kernel, by decide +kernel⟩, by decide +kernel⟩
theorem f_RX2_227 : zFL RX2 227 4 4 := ⟨q_1_58, by decide, by decide⟩
theorem f_RX2_230 : zFL RX2 230 4 3 := ⟨q_1_56, by decide, by decide⟩
theorem f_RX2_203 : zFL RX2 203 6 2 := ⟨q_1_150, by decide, by decide⟩
theorem f_RX2_206 : zFL RX2 206 6 3 := ⟨q_1_153, by decide, by decide⟩
theorem f_RX2_207 : zFL RX2 207 6 4 := ⟨q_1_156, by decide, by decide⟩
theorem f_RX2_208 : zFL RX2 208 6 5 := ⟨q_1_159, by decide, by decide⟩
theorem f_RX2_211 : zFL RX2 211 6 6 := ⟨q_1_162, by decide, by decide⟩
theorem k_RX2_214 : zKV RX2 214 6 yX6_removeFirst M_X6_removeFirst 0 := ⟨q_4_72, q_4_73, q_4_74, q_1_5, q_4_75, ⟨by decide +kernel, by decide +kernel⟩, by decide +kernel⟩
theorem k_RX2_220 : zKV RX2 220 2 yX2_freePlace M_X2_freePlace 1 := ⟨q_4_84, q_4_86, q_s_26, q_1_2, q_4_87, ⟨by decide +kernel, by decide +kernel⟩, by decide +kernel⟩
theorem k_RX2_217 : zKV RX2 217 2 yX2_endReturn M_X2_endReturn 1 := ⟨q_4_76, q_4_78, q_s_25, q_1_2, q_4_79, ⟨by decide +kernel, by decide +kernel⟩, by decide +kernel⟩
theorem f_RX2_192 : zFL RX2 192 6 1 := ⟨q_1_147, by decide, by decide⟩
theorem k_RX2_194 : zKV RX2 194 2 yX2_treatFirst M_X2_treatFirst 0 := ⟨q_4_68, q_4_70, q_s_24, q_1_2, q_4_71, ⟨by decide +kernel, by decide +kernel⟩, by decide +kernel⟩
theorem f_RX2_197 : zFL RX2 197 0 4 := ⟨q_1_119, by decide, by decide⟩
theorem f_RX2_200 : zFL RX2 200 3 2 := ⟨q_1_189, by decide, by decide⟩
theorem f_RX1_7 : zFL RX1 7 1 0 := ⟨q_1_211, by decide, by decide⟩
theorem k_RX2_242 : zKV RX2 242 1 yX1_draw M_X1_draw 1 := ⟨q_4_109, q_4_110, q_4_111, q_1_7, q_4_112, ⟨by decide +kernel, by decide +kernel⟩, by decide +kernel⟩
theorem f_RX2_245 : zFL RX2 245 4 10 := ⟨q_1_75, by decide, by decide⟩
theorem k_RX2_248 : zKV RX2 248 2 yX2_refuses M_X2_refuses 0 := ⟨q_4_117, q_4_16, q_4_17, q_1_2, q_4_18, ⟨by decide +kernel, by decide +kernel⟩, by decide +kernel⟩
theorem k_RX2_255 : zKV RX2 255 2 yX2_occur M_X2_occur 3 := ⟨q_4_118, q_4_21, q_4_22, q_1_2, q_4_23, ⟨by decide +kernel, by decide +kernel⟩, by decide +kernel⟩
theorem f_RX2_252 : zFL RX2 252 0 0 := ⟨q_1_108, by decide, by decide⟩
theorem k_RX2_233 : zKV RX2 233 1 yX1_start M_X1_start 1 := ⟨q_4_100, q_4_101, q_4_102, q_1_7, q_4_103, ⟨by decide +kernel, by decide +kernel⟩, by decide +kernel⟩
theorem k_RX2_236 : zKV RX2 236 2 yX2_beginDay M_X2_beginDay 0 := ⟨q_4_104, q_4_65, q_4_66, q_1_2, q_4_67, ⟨by decide +kernel, by decide +kernel⟩, by decide +kernel⟩
theorem f_RX2_107 : zFL RX2 107 4 0 := ⟨q_1_46, by decide, by decide⟩
theorem k_RX2_239 : zKV RX2 239 2 yX2_drawDemand M_X2_drawDemand 2 := ⟨q_4_105, q_4_107, q_s_27, q_1_2, q_4_108, ⟨by decide +kernel, by decide +kernel⟩, by decide +kernel⟩
theorem k_RX2_101 : zKV RX2 101 6 yX6_countOwned M_X6_countOwned 2 := ⟨q_4_170, q_4_171, q_4_172, q_1_5, q_4_173, ⟨by decide +kernel, by decide +kernel⟩, by decide +kernel⟩
theorem k_RX2_94 : zKV RX2 94 3 yX3_countOf M_X3_countOf 2 := ⟨q_4_174, q_4_141, q_4_142, q_1_6, q_4_143, ⟨by decide +kernel, by decide +kernel⟩, by decide +kernel⟩
theorem k_RX2_98 : zKV RX2 98 6 yX6_countKind M_X6_countKind 2 := ⟨q_4_193, q_4_194, q_4_195, q_1_5, q_4_196, ⟨by decide +kernel, by decide +kernel⟩, by decide +kernel⟩
theorem k_RX4_52 : zKSN RX4 52 RX7 yX7_copyRow M_X7_copyRow 3 := ⟨q_5_89, q_5_80, q_1_1, q_5_81, ⟨by decide +kernel, by decide +kernel⟩, by decide +kernel⟩
theorem k_RX0_37 : zKSN RX0 37 RX7 yX7_copyRow M_X7_copyRow 3 := ⟨q_5_94, q_5_80, q_1_1, q_5_81, ⟨by decide +kernel, by decide +kernel⟩, by decide +kernel⟩
theorem k_RX6_34 : zKSN RX6 34 RX7 yX7_copyRow M_X7_copyRow 3 := ⟨q_5_99, q_5_80, q_1_1, q_5_81, ⟨by decide +kernel, by decide +kernel⟩, by decide +kernel⟩
theorem k_RX3_28 : zKSN RX3 28 RX7 yX7_copyRow M_X7_copyRow 3 := ⟨q_5_104, q_5_80, q_1_1, q_5_81, ⟨by decide +kernel, by decide +kernel⟩, by decide +kernel⟩
theorem k_RX2_77 : zKSN RX2 77 RX7 yX7_copyRow M_X7_copyRow 3 := ⟨q_5_79, q_5_80, q_1_1, q_5_81, ⟨by decide +kernel, by decide +kernel⟩, by decide +kernel⟩
theorem k_RX2_81 : zKV RX2 81 4 yX4_copyFrom M_X4_copyFrom 1 := ⟨q_5_85, q_5_86, q_5_87, q_1_3, q_5_88, ⟨by decide +kernel, by decide +kernel⟩, by decide +kernel⟩
theorem k_RX2_85 : zKV RX2 85 0 yX0_copyFrom M_X0_copyFrom 1 := ⟨q_5_90, q_5_91, q_5_92, q_1_4, q_5_93, ⟨by decide +kernel, by decide +kernel⟩, by decide +kernel⟩
theorem k_RX2_88 : zKV RX2 88 6 yX6_copyFrom M_X6_copyFrom 1 := ⟨q_5_95, q_5_96, q_5_97, q_1_5, q_5_98, ⟨by decide +kernel, by decide +kernel⟩, by decide +kernel⟩
theorem k_RX2_91 : zKV RX2 91 3 yX3_copyFrom M_X3_copyFrom 1 := ⟨q_5_100, q_5_101, q_5_102, q_1_6, q_5_103, ⟨by decide +kernel, by decide +kernel⟩, by decide +kernel⟩
theorem f_RX5_11 : zFL RX5 11 5 3 := ⟨q_2_28, by decide, by decide⟩
theorem f_RX5_15 : zFL RX5 15 5 4 := ⟨q_2_29, by decide, by decide⟩
theorem f_RX5_19 : zFL RX5 19 5 2 := ⟨q_2_26, by decide, by decide⟩
theorem f_RX5_39 : zFL RX5 39 5 6 := ⟨q_2_31, by decide, by decide⟩
theorem f_RX5_33 : zFL RX5 33 5 5 := ⟨q_2_30, by decide, by decide⟩
theorem f_RX5_23 : zFL RX5 23 5 0 := ⟨q_2_22, by decide, by decide⟩
theorem k_RX5_164 : zKS RX5 164 yX5_isLetter M_X5_isLetter 1 := ⟨q_2_119, q_2_120, q_1_8, q_2_121, ⟨by decide +kernel, by decide +kernel⟩, by decide +kernel⟩
theorem f_RX5_76 : zFL RX5 76 5 8 := ⟨q_2_33, by decide, by decide⟩
theorem k_RX5_170 : zKS RX5 170 yX5_isDigit M_X5_isDigit 1 := ⟨q_2_126, q_2_127, q_1_8, q_2_128, ⟨by decide +kernel, by decide +kernel⟩, by decide +kernel⟩
theorem f_RX5_79 : zFL RX5 79 5 7 := ⟨q_2_32, by decide, by decide⟩
theorem k_RX5_173 : zKV RX5 173 5 yX5_readNumber M_X5_readNumber 0 := ⟨q_2_129, q_2_131, q_s_2, q_1_8, q_2_132, ⟨by decide +kernel, by decide +kernel⟩, by decide +kernel⟩
theorem k_RX5_167 : zKV RX5 167 5 yX5_readWord M_X5_readWord 0 := ⟨q_2_122, q_2_124, q_s_1, q_1_8, q_2_125, ⟨by decide +kernel, by decide +kernel⟩, by decide +kernel⟩
theorem k_RX5_161 : zKS RX5 161 yX5_isBlank M_X5_isBlank 1 := ⟨q_2_116, q_2_117, q_1_8, q_2_118, ⟨by decide +kernel, by decide +kernel⟩, by decide +kernel⟩
theorem ks_RX5_102 : zKT RX5 102 yJ0_length_8abf5 M_J0_length 0 := ⟨q_2_149, by decide +kernel, by decide +kernel, by decide +kernel, by decide +kernel, ⟨by decide +kernel, by decide +kernel⟩, by decide +kernel⟩
theorem ks_RX5_106 : zKT RX5 106 yJ0_charAt_5068e M_J0_charAt 1 := ⟨q_2_159, by decide +kernel, by decide +kernel, by decide +kernel, by decide +kernel, ⟨by decide +kernel, by decide +kernel⟩, by decide +kernel⟩
theorem k_RX5_84 : zKV RX5 84 5 yX5_wordIs M_X5_wordIs 1 := ⟨q_2_145, q_2_147, q_s_5, q_1_8, q_2_148, ⟨by decide +kernel, by decide +kernel⟩, by decide +kernel⟩
theorem f_RX5_30 : zFL RX5 30 5 1 := ⟨q_2_24, by decide, by decide⟩
theorem k_RX5_121 : zKV RX5 121 4 yX4_isBase M_X4_isBase 1 := ⟨q_2_219, q_2_220, q_2_221, q_1_3, q_2_222, ⟨by decide +kernel, by decide +kernel⟩, by decide +kernel⟩
theorem k_RX5_110 : zKSN RX5 110 RX7 yX7_within M_X7_within 3 := ⟨q_2_212, q_2_213, q_1_1, q_2_214, ⟨by decide +kernel, by decide +kernel⟩, by decide +kernel⟩
theorem k_RX5_131 : zKS RX5 131 yX5_mostOf M_X5_mostOf 1 := ⟨q_2_235, q_2_236, q_1_8, q_2_237, ⟨by decide +kernel, by decide +kernel⟩, by decide +kernel⟩
theorem k_RX5_128 : zKV RX5 128 4 yX4_isItem M_X4_isItem 1 := ⟨q_2_231, q_2_232, q_2_233, q_1_3, q_2_234, ⟨by decide +kernel, by decide +kernel⟩, by decide +kernel⟩
theorem k_RX5_125 : zKV RX5 125 4 yX4_isSite M_X4_isSite 1 := ⟨q_2_227, q_2_228, q_2_229, q_1_3, q_2_230, ⟨by decide +kernel, by decide +kernel⟩, by decide +kernel⟩
theorem k_RX5_118 : zKV RX5 118 5 yX5_isCellArgument M_X5_isCellArgument 3 := ⟨q_2_223, q_2_225, q_s_9, q_1_8, q_2_226, ⟨by decide +kernel, by decide +kernel⟩, by decide +kernel⟩
theorem k_RX5_114 : zKV RX5 114 5 yX5_isLinkArgument M_X5_isLinkArgument 2 := ⟨q_2_215, q_2_217, q_s_8, q_1_8, q_2_218, ⟨by decide +kernel, by decide +kernel⟩, by decide +kernel⟩
theorem k_RX5_56 : zKV RX5 56 5 yX5_findStatement M_X5_findStatement 0 := ⟨q_2_140, q_2_142, q_s_4, q_1_8, q_2_143, ⟨by decide +kernel, by decide +kernel⟩, by decide +kernel⟩
theorem k_RX5_36 : zKV RX5 36 5 yX5_nextToken M_X5_nextToken 0 := ⟨q_2_112, q_2_114, q_s_0, q_1_8, q_2_115, ⟨by decide +kernel, by decide +kernel⟩, by decide +kernel⟩
theorem f_RX5_69 : zFL RX5 69 4 1 := ⟨q_1_49, by decide, by decide⟩
theorem k_RX5_60 : zKV RX5 60 5 yX5_fail M_X5_fail 1 := ⟨q_2_204, q_2_206, q_s_6, q_1_8, q_2_207, ⟨by decide +kernel, by decide +kernel⟩, by decide +kernel⟩
theorem f_RX5_64 : zFL RX5 64 4 0 := ⟨q_1_45, by decide, by decide⟩
theorem k_RX5_72 : zKV RX5 72 5 yX5_isInRange M_X5_isInRange 3 := ⟨q_2_208, q_2_210, q_s_7, q_1_8, q_2_211, ⟨by decide +kernel, by decide +kernel⟩, by decide +kernel⟩
theorem f_RX5_42 : zFL RX5 42 2 3 := ⟨q_1_223, by decide, by decide⟩
theorem f_RX5_158 : zFL RX5 158 4 2 := ⟨q_1_54, by decide, by decide⟩
theorem k_RX5_134 : zKV RX5 134 4 yX4_newItem M_X4_newItem 3 := ⟨q_3_2, q_3_3, q_3_4, q_1_3, q_3_5, ⟨by decide +kernel, by decide +kernel⟩, by decide +kernel⟩
theorem k_RX5_138 : zKV RX5 138 4 yX4_newBase M_X4_newBase 1 := ⟨q_3_6, q_3_7, q_3_8, q_1_3, q_3_9, ⟨by decide +kernel, by decide +kernel⟩, by decide +kernel⟩
theorem k_RX5_141 : zKV RX5 141 2 yX2_changeLevel M_X2_changeLevel 3 := ⟨q_3_10, q_3_11, q_3_12, q_1_2, q_3_13, ⟨by decide +kernel, by decide +kernel⟩, by decide +kernel⟩
theorem k_RX5_145 : zKV RX5 145 4 yX4_join M_X4_join 3 := ⟨q_3_41, q_3_42, q_3_43, q_1_3, q_3_44, ⟨by decide +kernel, by decide +kernel⟩, by decide +kernel⟩
theorem f_RX5_148 : zFL RX5 148 4 9 := ⟨q_1_71, by decide, by decide⟩
theorem k_RX5_150 : zKSN RX5 150 RX7 yX7_cell M_X7_cell 2 := ⟨q_3_45, q_3_15, q_1_1, q_3_16, ⟨by decide +kernel, by decide +kernel⟩, by decide +kernel⟩
theorem f_RX5_154 : zFL RX5 154 4 8 := ⟨q_1_67, by decide, by decide⟩
theorem f_RX5_156 : zFL RX5 156 4 10 := ⟨q_1_74, by decide, by decide⟩
theorem k_RX5_48 : zKV RX5 48 5 yX5_readStatement M_X5_readStatement 1 := ⟨q_2_136, q_2_138, q_s_3, q_1_8, q_2_139, ⟨by decide +kernel, by decide +kernel⟩, by decide +kernel⟩
theorem k_RX5_52 : zKV RX5 52 5 yX5_apply M_X5_apply 2 := ⟨q_2_238, q_3_0, q_s_10, q_1_8, q_3_1, ⟨by decide +kernel, by decide +kernel⟩, by decide +kernel⟩
theorem k_RX5_26 : zKV RX5 26 5 yX5_isFull M_X5_isFull 0 := ⟨q_5_121, q_5_113, q_5_114, q_1_8, q_5_115, ⟨by decide +kernel, by decide +kernel⟩, by decide +kernel⟩
theorem k_RX7_11 : zKI RX7 11 yX2_init M_X2_init 0 := ⟨q_1_33, q_1_34, q_1_2, q_1_35, ⟨by decide +kernel, by decide +kernel⟩, by decide +kernel, rfl, rfl⟩
theorem f_RX7_12 : zFL RX7 12 7 0 := ⟨q_2_54, by decide, by decide⟩
theorem f_RX7_16 : zFL RX7 16 7 1 := ⟨q_2_55, by decide, by decide⟩
theorem f_RX7_19 : zFL RX7 19 7 2 := ⟨q_2_56, by decide, by decide⟩
theorem k_RX7_25 : zKI RX7 25 yX5_init M_X5_init 0 := ⟨q_2_18, q_2_19, q_1_8, q_2_20, ⟨by decide +kernel, by decide +kernel⟩, by decide +kernel, rfl, rfl⟩
theorem f_RX7_26 : zFL RX7 26 7 3 := ⟨q_2_57, by decide, by decide⟩
theorem f_RX7_34 : zFL RX7 34 2 3 := ⟨q_1_222, by decide, by decide⟩
theorem f_RX7_38 : zFL RX7 38 4 0 := ⟨q_1_44, by decide, by decide⟩
theorem f_RX7_55 : zFL RX7 55 4 1 := ⟨q_1_48, by decide, by decide⟩
theorem f_RX7_133 : zFL RX7 133 2 0 := ⟨q_1_216, by decide, by decide⟩
theorem f_RX7_140 : zFL RX7 140 2 4 := ⟨q_1_225, by decide, by decide⟩
theorem f_RX7_144 : zFL RX7 144 0 0 := ⟨q_1_107, by decide, by decide⟩
theorem f_RX7_173 : zFL RX7 173 2 5 := ⟨q_1_227, by decide, by decide⟩
theorem f_RX7_184 : zFL RX7 184 6 0 := ⟨q_1_145, by decide, by decide⟩
theorem k_RX7_242 : zKV RX7 242 2 yX2_clear M_X2_clear 0 := ⟨q_2_91, q_2_92, q_2_93, q_1_2, q_2_94, ⟨by decide +kernel, by decide +kernel⟩, by decide +kernel⟩
theorem k_RX7_245 : zKV RX7 245 5 yX5_read M_X5_read 1 := ⟨q_2_108, q_2_109, q_2_110, q_1_8, q_2_111, ⟨by decide +kernel, by decide +kernel⟩, by decide +kernel⟩
theorem f_RX7_239 : zFL RX7 239 5 0 := ⟨q_2_23, by decide, by decide⟩
theorem f_RX7_249 : zFL RX7 249 5 1 := ⟨q_2_25, by decide, by decide⟩
theorem f_RX7_252 : zFL RX7 252 5 2 := ⟨q_2_27, by decide, by decide⟩
theorem k_RX7_280 : zKS RX7 280 yX7_within M_X7_within 3 := ⟨q_3_66, q_2_213, q_1_1, q_2_214, ⟨by decide +kernel, by decide +kernel⟩, by decide +kernel⟩
theorem k_RX7_30 : zKS RX7 30 yX7_checkRange M_X7_checkRange 3 := ⟨q_3_63, q_3_64, q_1_1, q_3_65, ⟨by decide +kernel, by decide +kernel⟩, by decide +kernel⟩
theorem k_RX7_51 : zKV RX7 51 4 yX4_newItem M_X4_newItem 3 := ⟨q_3_150, q_3_3, q_3_4, q_1_3, q_3_5, ⟨by decide +kernel, by decide +kernel⟩, by decide +kernel⟩
theorem k_RX7_60 : zKV RX7 60 4 yX4_newBase M_X4_newBase 1 := ⟨q_3_159, q_3_7, q_3_8, q_1_3, q_3_9, ⟨by decide +kernel, by decide +kernel⟩, by decide +kernel⟩
theorem k_RX7_266 : zKV RX7 266 4 yX4_isBase M_X4_isBase 1 := ⟨q_3_172, q_2_220, q_2_221, q_1_3, q_2_222, ⟨by decide +kernel, by decide +kernel⟩, by decide +kernel⟩
theorem k_RX7_64 : zKV RX7 64 7 yX7_checkBase M_X7_checkBase 1 := ⟨q_3_168, q_3_170, q_s_15, q_1_1, q_3_171, ⟨by decide +kernel, by decide +kernel⟩, by decide +kernel⟩
theorem k_RX7_73 : zKV RX7 73 4 yX4_linkTime M_X4_linkTime 2 := ⟨q_3_190, q_3_191, q_3_192, q_1_3, q_3_193, ⟨by decide +kernel, by decide +kernel⟩, by decide +kernel⟩
theorem k_RX7_77 : zKV RX7 77 4 yX4_join M_X4_join 3 := ⟨q_3_194, q_3_42, q_3_43, q_1_3, q_3_44, ⟨by decide +kernel, by decide +kernel⟩, by decide +kernel⟩
theorem k_RX7_257 : zKV RX7 257 4 yX4_isSite M_X4_isSite 1 := ⟨q_3_206, q_2_228, q_2_229, q_1_3, q_2_230, ⟨by decide +kernel, by decide +kernel⟩, by decide +kernel⟩
theorem k_RX7_271 : zKV RX7 271 4 yX4_isItem M_X4_isItem 1 := ⟨q_3_212, q_2_232, q_2_233, q_1_3, q_2_234, ⟨by decide +kernel, by decide +kernel⟩, by decide +kernel⟩
theorem k_RX7_80 : zKV RX7 80 7 yX7_checkSite M_X7_checkSite 1 := ⟨q_3_202, q_3_204, q_s_16, q_1_1, q_3_205, ⟨by decide +kernel, by decide +kernel⟩, by decide +kernel⟩
theorem k_RX7_83 : zKV RX7 83 7 yX7_checkItem M_X7_checkItem 1 := ⟨q_3_208, q_3_210, q_s_17, q_1_1, q_3_211, ⟨by decide +kernel, by decide +kernel⟩, by decide +kernel⟩
theorem k_RX7_86 : zKS RX7 86 yX7_cell M_X7_cell 2 := ⟨q_3_214, q_3_15, q_1_1, q_3_16, ⟨by decide +kernel, by decide +kernel⟩, by decide +kernel⟩
theorem f_RX7_89 : zFL RX7 89 2 1 := ⟨q_1_218, by decide, by decide⟩
theorem f_RX7_93 : zFL RX7 93 2 2 := ⟨q_1_220, by decide, by decide⟩
theorem k_RX7_98 : zKV RX7 98 2 yX2_changeLevel M_X2_changeLevel 3 := ⟨q_3_216, q_3_11, q_3_12, q_1_2, q_3_13, ⟨by decide +kernel, by decide +kernel⟩, by decide +kernel⟩
theorem f_RX7_101 : zFL RX7 101 4 9 := ⟨q_1_69, by decide, by decide⟩
theorem k_RX7_104 : zKS RX7 104 yX7_exchange M_X7_exchange 3 := ⟨q_3_224, q_3_225, q_1_1, q_3_226, ⟨by decide +kernel, by decide +kernel⟩, by decide +kernel⟩
theorem f_RX7_108 : zFL RX7 108 4 8 := ⟨q_1_65, by decide, by decide⟩
theorem f_RX7_111 : zFL RX7 111 4 10 := ⟨q_1_73, by decide, by decide⟩
theorem f_RX7_114 : zFL RX7 114 4 2 := ⟨q_1_52, by decide, by decide⟩
theorem k_RX7_117 : zKV RX7 117 2 yX2_refuses M_X2_refuses 0 := ⟨q_4_15, q_4_16, q_4_17, q_1_2, q_4_18, ⟨by decide +kernel, by decide +kernel⟩, by decide +kernel⟩
theorem k_RX7_123 : zKV RX7 123 2 yX2_occur M_X2_occur 3 := ⟨q_4_20, q_4_21, q_4_22, q_1_2, q_4_23, ⟨by decide +kernel, by decide +kernel⟩, by decide +kernel⟩
theorem k_RX7_127 : zKV RX7 127 7 yX7_checkLastDay M_X7_checkLastDay 1 := ⟨q_4_59, q_4_61, q_s_23, q_1_1, q_4_62, ⟨by decide +kernel, by decide +kernel⟩, by decide +kernel⟩
theorem k_RX7_130 : zKV RX7 130 2 yX2_beginDay M_X2_beginDay 0 := ⟨q_4_64, q_4_65, q_4_66, q_1_2, q_4_67, ⟨by decide +kernel, by decide +kernel⟩, by decide +kernel⟩
theorem k_RX7_137 : zKV RX7 137 2 yX2_runDays M_X2_runDays 2 := ⟨q_4_96, q_4_97, q_4_98, q_1_2, q_4_99, ⟨by decide +kernel, by decide +kernel⟩, by decide +kernel⟩
theorem f_RX7_149 : zFL RX7 149 2 8 := ⟨q_1_232, by decide, by decide⟩
theorem k_RX7_153 : zKV RX7 153 3 yX3_countOf M_X3_countOf 2 := ⟨q_4_140, q_4_141, q_4_142, q_1_6, q_4_143, ⟨by decide +kernel, by decide +kernel⟩, by decide +kernel⟩
theorem k_RX7_158 : zKV RX7 158 3 yX3_firstOf M_X3_firstOf 2 := ⟨q_4_151, q_3_22, q_3_23, q_1_6, q_3_24, ⟨by decide +kernel, by decide +kernel⟩, by decide +kernel⟩
theorem f_RX7_161 : zFL RX7 161 3 3 := ⟨q_1_191, by decide, by decide⟩
theorem f_RX7_164 : zFL RX7 164 2 7 := ⟨q_1_230, by decide, by decide⟩
theorem k_RX7_167 : zKV RX7 167 2 yX2_expected M_X2_expected 2 := ⟨q_4_166, q_4_167, q_4_168, q_1_2, q_4_169, ⟨by decide +kernel, by decide +kernel⟩, by decide +kernel⟩
theorem k_RX7_170 : zKV RX7 170 2 yX2_countKind M_X2_countKind 2 := ⟨q_4_189, q_4_190, q_4_191, q_1_2, q_4_192, ⟨by decide +kernel, by decide +kernel⟩, by decide +kernel⟩
theorem k_RX7_177 : zKV RX7 177 6 yX6_firstArrival M_X6_firstArrival 2 := ⟨q_4_211, q_4_212, q_4_213, q_1_5, q_4_214, ⟨by decide +kernel, by decide +kernel⟩, by decide +kernel⟩
theorem f_RX7_182 : zFL RX7 182 6 1 := ⟨q_1_148, by decide, by decide⟩
theorem k_RX7_187 : zKV RX7 187 7 yX7_checkUnit M_X7_checkUnit 1 := ⟨q_4_222, q_4_224, q_s_28, q_1_1, q_4_225, ⟨by decide +kernel, by decide +kernel⟩, by decide +kernel⟩
theorem f_RX7_190 : zFL RX7 190 6 2 := ⟨q_1_151, by decide, by decide⟩
theorem f_RX7_193 : zFL RX7 193 6 3 := ⟨q_1_154, by decide, by decide⟩
theorem f_RX7_196 : zFL RX7 196 6 4 := ⟨q_1_157, by decide, by decide⟩
theorem f_RX7_199 : zFL RX7 199 6 5 := ⟨q_1_160, by decide, by decide⟩
theorem k_RX7_202 : zKV RX7 202 7 yX7_checkFigure M_X7_checkFigure 2 := ⟨q_5_22, q_5_24, q_s_29, q_1_1, q_5_25, ⟨by decide +kernel, by decide +kernel⟩, by decide +kernel⟩
theorem f_RX7_206 : zFL RX7 206 0 1 := ⟨q_1_111, by decide, by decide⟩
theorem k_RX7_209 : zKV RX7 209 2 yX2_total M_X2_total 3 := ⟨q_5_26, q_5_27, q_5_28, q_1_2, q_5_29, ⟨by decide +kernel, by decide +kernel⟩, by decide +kernel⟩
theorem f_RX7_212 : zFL RX7 212 0 2 := ⟨q_1_114, by decide, by decide⟩
theorem k_RX7_215 : zKS RX7 215 yX7_commonDivisor M_X7_commonDivisor 2 := ⟨q_5_37, q_5_38, q_1_1, q_5_39, ⟨by decide +kernel, by decide +kernel⟩, by decide +kernel⟩
theorem f_RX7_218 : zFL RX7 218 0 3 := ⟨q_1_117, by decide, by decide⟩
theorem f_RX7_221 : zFL RX7 221 0 4 := ⟨q_1_120, by decide, by decide⟩
theorem f_RX7_224 : zFL RX7 224 0 5 := ⟨q_1_123, by decide, by decide⟩
theorem k_RX7_227 : zKV RX7 227 2 yX2_copyFrom M_X2_copyFrom 1 := ⟨q_5_75, q_5_76, q_5_77, q_1_2, q_5_78, ⟨by decide +kernel, by decide +kernel⟩, by decide +kernel⟩
theorem k_RX7_231 : zKV RX7 231 5 yX5_isFull M_X5_isFull 0 := ⟨q_5_112, q_5_113, q_5_114, q_1_8, q_5_115, ⟨by decide +kernel, by decide +kernel⟩, by decide +kernel⟩
theorem k_RX7_236 : zKV RX7 236 5 yX5_append M_X5_append 1 := ⟨q_5_117, q_5_118, q_5_119, q_1_8, q_5_120, ⟨by decide +kernel, by decide +kernel⟩, by decide +kernel⟩
theorem k_RL_7 : zKV RL 7 7 yX7_addItem M_X7_addItem 3 := ⟨q_3_59, q_3_60, q_3_61, q_1_1, q_3_62, ⟨by decide +kernel, by decide +kernel⟩, by decide +kernel⟩
theorem k_RL_17 : zKV RL 17 7 yX7_addBase M_X7_addBase 1 := ⟨q_3_154, q_3_155, q_3_156, q_1_1, q_3_157, ⟨by decide +kernel, by decide +kernel⟩, by decide +kernel⟩
theorem k_RL_21 : zKV RL 21 7 yX7_setLink M_X7_setLink 3 := ⟨q_3_164, q_3_165, q_3_166, q_1_1, q_3_167, ⟨by decide +kernel, by decide +kernel⟩, by decide +kernel⟩
theorem k_RL_26 : zKV RL 26 7 yX7_setLevel M_X7_setLevel 3 := ⟨q_3_198, q_3_199, q_3_200, q_1_1, q_3_201, ⟨by decide +kernel, by decide +kernel⟩, by decide +kernel⟩
theorem k_RL_29 : zKV RL 29 7 yX7_setShare M_X7_setShare 3 := ⟨q_3_220, q_3_221, q_3_222, q_1_1, q_3_223, ⟨by decide +kernel, by decide +kernel⟩, by decide +kernel⟩
theorem k_RL_32 : zKV RL 32 7 yX7_setReserve M_X7_setReserve 3 := ⟨q_3_230, q_3_231, q_3_232, q_1_1, q_3_233, ⟨by decide +kernel, by decide +kernel⟩, by decide +kernel⟩
theorem k_RL_35 : zKV RL 35 7 yX7_setRate M_X7_setRate 3 := ⟨q_3_237, q_3_238, q_3_239, q_1_1, q_4_0, ⟨by decide +kernel, by decide +kernel⟩, by decide +kernel⟩
theorem k_RL_38 : zKV RL 38 7 yX7_setLateralLimit M_X7_setLateralLimit 1 := ⟨q_4_4, q_4_5, q_4_6, q_1_1, q_4_7, ⟨by decide +kernel, by decide +kernel⟩, by decide +kernel⟩
theorem k_RL_41 : zKV RL 41 7 yX7_demand M_X7_demand 3 := ⟨q_4_11, q_4_12, q_4_13, q_1_1, q_4_14, ⟨by decide +kernel, by decide +kernel⟩, by decide +kernel⟩
theorem k_RL_45 : zKV RL 45 7 yX7_advance M_X7_advance 1 := ⟨q_4_55, q_4_56, q_4_57, q_1_1, q_4_58, ⟨by decide +kernel, by decide +kernel⟩, by decide +kernel⟩
theorem k_RL_48 : zKV RL 48 7 yX7_run M_X7_run 2 := ⟨q_4_91, q_4_92, q_4_93, q_1_1, q_4_94, ⟨by decide +kernel, by decide +kernel⟩, by decide +kernel⟩
theorem k_RL_52 : zKV RL 52 7 yX7_level M_X7_level 2 := ⟨q_4_122, q_4_123, q_4_124, q_1_1, q_4_125, ⟨by decide +kernel, by decide +kernel⟩, by decide +kernel⟩
theorem k_RL_55 : zKV RL 55 7 yX7_onHand M_X7_onHand 2 := ⟨q_4_129, q_4_130, q_4_131, q_1_1, q_4_132, ⟨by decide +kernel, by decide +kernel⟩, by decide +kernel⟩
theorem k_RL_58 : zKV RL 58 7 yX7_waiting M_X7_waiting 2 := ⟨q_4_136, q_4_137, q_4_138, q_1_1, q_4_139, ⟨by decide +kernel, by decide +kernel⟩, by decide +kernel⟩
theorem k_RL_61 : zKV RL 61 7 yX7_topPriority M_X7_topPriority 2 := ⟨q_4_147, q_4_148, q_4_149, q_1_1, q_4_150, ⟨by decide +kernel, by decide +kernel⟩, by decide +kernel⟩
theorem k_RL_64 : zKV RL 64 7 yX7_keptOrders M_X7_keptOrders 1 := ⟨q_4_155, q_4_156, q_4_157, q_1_1, q_4_158, ⟨by decide +kernel, by decide +kernel⟩, by decide +kernel⟩
theorem k_RL_67 : zKV RL 67 7 yX7_dueIn M_X7_dueIn 2 := ⟨q_4_162, q_4_163, q_4_164, q_1_1, q_4_165, ⟨by decide +kernel, by decide +kernel⟩, by decide +kernel⟩
theorem k_RL_70 : zKV RL 70 7 yX7_position M_X7_position 2 := ⟨q_4_178, q_4_179, q_4_180, q_1_1, q_4_181, ⟨by decide +kernel, by decide +kernel⟩, by decide +kernel⟩
theorem k_RL_73 : zKV RL 73 7 yX7_underWay M_X7_underWay 2 := ⟨q_4_185, q_4_186, q_4_187, q_1_1, q_4_188, ⟨by decide +kernel, by decide +kernel⟩, by decide +kernel⟩
theorem k_RL_76 : zKV RL 76 7 yX7_fleet M_X7_fleet 1 := ⟨q_4_200, q_4_201, q_4_202, q_1_1, q_4_203, ⟨by decide +kernel, by decide +kernel⟩, by decide +kernel⟩
theorem k_RL_79 : zKV RL 79 7 yX7_nextArrival M_X7_nextArrival 2 := ⟨q_4_207, q_4_208, q_4_209, q_1_1, q_4_210, ⟨by decide +kernel, by decide +kernel⟩, by decide +kernel⟩
theorem k_RL_82 : zKV RL 82 7 yX7_dueDay M_X7_dueDay 1 := ⟨q_4_218, q_4_219, q_4_220, q_1_1, q_4_221, ⟨by decide +kernel, by decide +kernel⟩, by decide +kernel⟩
theorem k_RL_85 : zKV RL 85 7 yX7_dueKind M_X7_dueKind 1 := ⟨q_4_230, q_4_231, q_4_232, q_1_1, q_4_233, ⟨by decide +kernel, by decide +kernel⟩, by decide +kernel⟩
theorem k_RL_88 : zKV RL 88 7 yX7_dueItem M_X7_dueItem 1 := ⟨q_4_237, q_4_238, q_4_239, q_1_1, q_5_0, ⟨by decide +kernel, by decide +kernel⟩, by decide +kernel⟩
theorem k_RL_91 : zKV RL 91 7 yX7_dueSite M_X7_dueSite 1 := ⟨q_5_4, q_5_5, q_5_6, q_1_1, q_5_7, ⟨by decide +kernel, by decide +kernel⟩, by decide +kernel⟩
theorem k_RL_94 : zKV RL 94 7 yX7_dueOwner M_X7_dueOwner 1 := ⟨q_5_11, q_5_12, q_5_13, q_1_1, q_5_14, ⟨by decide +kernel, by decide +kernel⟩, by decide +kernel⟩
theorem k_RL_97 : zKV RL 97 7 yX7_demands M_X7_demands 2 := ⟨q_5_18, q_5_19, q_5_20, q_1_1, q_5_21, ⟨by decide +kernel, by decide +kernel⟩, by decide +kernel⟩
theorem k_RL_100 : zKV RL 100 7 yX7_fillNumerator M_X7_fillNumerator 2 := ⟨q_5_33, q_5_34, q_5_35, q_1_1, q_5_36, ⟨by decide +kernel, by decide +kernel⟩, by decide +kernel⟩
theorem k_RL_103 : zKV RL 103 7 yX7_fillDenominator M_X7_fillDenominator 2 := ⟨q_5_43, q_5_44, q_5_45, q_1_1, q_5_46, ⟨by decide +kernel, by decide +kernel⟩, by decide +kernel⟩
theorem k_RL_106 : zKV RL 106 7 yX7_delays M_X7_delays 2 := ⟨q_5_50, q_5_51, q_5_52, q_1_1, q_5_53, ⟨by decide +kernel, by decide +kernel⟩, by decide +kernel⟩
theorem k_RL_109 : zKV RL 109 7 yX7_backorderDays M_X7_backorderDays 2 := ⟨q_5_57, q_5_58, q_5_59, q_1_1, q_5_60, ⟨by decide +kernel, by decide +kernel⟩, by decide +kernel⟩
theorem k_RL_112 : zKV RL 112 7 yX7_helped M_X7_helped 2 := ⟨q_5_64, q_5_65, q_5_66, q_1_1, q_5_67, ⟨by decide +kernel, by decide +kernel⟩, by decide +kernel⟩
theorem k_RL_115 : zKV RL 115 7 yX7_bestSite M_X7_bestSite 3 := ⟨q_5_71, q_5_72, q_5_73, q_1_1, q_5_74, ⟨by decide +kernel, by decide +kernel⟩, by decide +kernel⟩
theorem k_RL_118 : zKV RL 118 7 yX7_appendText M_X7_appendText 1 := ⟨q_5_108, q_5_109, q_5_110, q_1_1, q_5_111, ⟨by decide +kernel, by decide +kernel⟩, by decide +kernel⟩
theorem k_RL_121 : zKV RL 121 7 yX7_truncateText M_X7_truncateText 1 := ⟨q_5_125, q_5_126, q_5_127, q_1_1, q_5_128, ⟨by decide +kernel, by decide +kernel⟩, by decide +kernel⟩
theorem k_RL_124 : zKV RL 124 7 yX7_save M_X7_save 1 := ⟨q_5_132, q_5_133, q_5_134, q_1_1, q_5_135, ⟨by decide +kernel, by decide +kernel⟩, by decide +kernel⟩
theorem k_RL_128 : zKV RL 128 7 yX7_restore M_X7_restore 1 := ⟨q_5_139, q_5_140, q_5_141, q_1_1, q_5_142, ⟨by decide +kernel, by decide +kernel⟩, by decide +kernel⟩
theorem k_RL_135 : zKW RL 135 yL_addItem M_L_addItem [(0, 12, 15, 13), (0, 12, 19, 15)] 5 := ⟨q_3_54, q_3_55, q_1_0, q_3_56, ⟨by decide +kernel, by decide +kernel⟩, by decide +kernel⟩
theorem k_RL_140 : zKV RL 140 8 yX8_addItem M_X8_addItem 3 := ⟨q_5_204, q_5_205, q_5_206, q_1_9, q_5_207, ⟨by decide +kernel, by decide +kernel⟩, by decide +kernel⟩
theorem k_RL_141 : zKV RL 141 8 yX8_thrown M_X8_thrown 0 := ⟨q_5_200, q_5_201, q_5_202, q_1_9, q_5_203, ⟨by decide +kernel, by decide +kernel⟩, by decide +kernel⟩
theorem k_RL_145 : zKW RL 145 yL_addBase M_L_addBase [(0, 9, 12, 13), (0, 9, 15, 15)] 3 := ⟨q_3_151, q_3_152, q_1_0, q_3_153, ⟨by decide +kernel, by decide +kernel⟩, by decide +kernel⟩
theorem k_RL_148 : zKV RL 148 8 yX8_addBase M_X8_addBase 1 := ⟨q_5_223, q_5_224, q_5_225, q_1_9, q_5_226, ⟨by decide +kernel, by decide +kernel⟩, by decide +kernel⟩
theorem k_RL_149 : zKV RL 149 7 yX7_itemCount M_X7_itemCount 0 := ⟨q_2_67, q_2_68, q_2_69, q_1_1, q_2_70, ⟨by decide +kernel, by decide +kernel⟩, by decide +kernel⟩
theorem k_RL_152 : zKV RL 152 8 yX8_itemCount M_X8_itemCount 0 := ⟨q_5_231, q_5_232, q_5_233, q_1_9, q_5_234, ⟨by decide +kernel, by decide +kernel⟩, by decide +kernel⟩
theorem k_RL_153 : zKV RL 153 7 yX7_siteCount M_X7_siteCount 0 := ⟨q_2_71, q_2_72, q_2_73, q_1_1, q_2_74, ⟨by decide +kernel, by decide +kernel⟩, by decide +kernel⟩
theorem k_RL_156 : zKV RL 156 8 yX8_siteCount M_X8_siteCount 0 := ⟨q_5_235, q_5_236, q_5_237, q_1_9, q_5_238, ⟨by decide +kernel, by decide +kernel⟩, by decide +kernel⟩
theorem k_RL_157 : zKW RL 157 yL_setLink M_L_setLink [(0, 12, 15, 24), (0, 12, 19, 13)] 5 := ⟨q_3_160, q_3_161, q_1_0, q_3_162, ⟨by decide +kernel, by decide +kernel⟩, by decide +kernel⟩
theorem k_RL_159 : zKV RL 159 8 yX8_setLink M_X8_setLink 3 := ⟨q_5_239, q_6_0, q_6_1, q_1_9, q_6_2, ⟨by decide +kernel, by decide +kernel⟩, by decide +kernel⟩
theorem k_RL_160 : zKW RL 160 yL_setLevel M_L_setLevel [(0, 12, 15, 24), (0, 12, 19, 13), (0, 12, 23, 15)] 5 := ⟨q_3_195, q_3_196, q_1_0, q_3_197, ⟨by decide +kernel, by decide +kernel⟩, by decide +kernel⟩
theorem k_RL_162 : zKV RL 162 8 yX8_setLevel M_X8_setLevel 3 := ⟨q_6_15, q_6_16, q_6_17, q_1_9, q_6_18, ⟨by decide +kernel, by decide +kernel⟩, by decide +kernel⟩
theorem k_RL_163 : zKW RL 163 yL_setShare M_L_setShare [(0, 12, 15, 24), (0, 12, 19, 13)] 5 := ⟨q_3_217, q_3_218, q_1_0, q_3_219, ⟨by decide +kernel, by decide +kernel⟩, by decide +kernel⟩
theorem k_RL_165 : zKV RL 165 8 yX8_setShare M_X8_setShare 3 := ⟨q_6_71, q_6_72, q_6_73, q_1_9, q_6_74, ⟨by decide +kernel, by decide +kernel⟩, by decide +kernel⟩
theorem k_RL_166 : zKW RL 166 yL_setReserve M_L_setReserve [(0, 12, 15, 24), (0, 12, 19, 13)] 5 := ⟨q_3_227, q_3_228, q_1_0, q_3_229, ⟨by decide +kernel, by decide +kernel⟩, by decide +kernel⟩
theorem k_RL_168 : zKV RL 168 8 yX8_setReserve M_X8_setReserve 3 := ⟨q_6_79, q_6_80, q_6_81, q_1_9, q_6_82, ⟨by decide +kernel, by decide +kernel⟩, by decide +kernel⟩
theorem k_RL_169 : zKW RL 169 yL_setRate M_L_setRate [(0, 12, 15, 24), (0, 12, 19, 13)] 5 := ⟨q_3_234, q_3_235, q_1_0, q_3_236, ⟨by decide +kernel, by decide +kernel⟩, by decide +kernel⟩
theorem k_RL_171 : zKV RL 171 8 yX8_setRate M_X8_setRate 3 := ⟨q_6_83, q_6_84, q_6_85, q_1_9, q_6_86, ⟨by decide +kernel, by decide +kernel⟩, by decide +kernel⟩
theorem k_RL_172 : zKW RL 172 yL_setLateralLimit M_L_setLateralLimit [(0, 9, 12, 13)] 3 := ⟨q_4_1, q_4_2, q_1_0, q_4_3, ⟨by decide +kernel, by decide +kernel⟩, by decide +kernel⟩
theorem k_RL_174 : zKV RL 174 8 yX8_setLateralLimit M_X8_setLateralLimit 1 := ⟨q_6_87, q_6_88, q_6_89, q_1_9, q_6_90, ⟨by decide +kernel, by decide +kernel⟩, by decide +kernel⟩
theorem k_RL_175 : zKW RL 175 yL_demand M_L_demand [(0, 19, 22, 24), (0, 19, 26, 13), (0, 19, 30, 15)] 5 := ⟨q_4_8, q_4_9, q_1_0, q_4_10, ⟨by decide +kernel, by decide +kernel⟩, by decide +kernel⟩
theorem k_RL_177 : zKV RL 177 8 yX8_demand M_X8_demand 3 := ⟨q_6_91, q_6_92, q_6_93, q_1_9, q_6_94, ⟨by decide +kernel, by decide +kernel⟩, by decide +kernel⟩
theorem k_RL_178 : zKW RL 178 yL_advance M_L_advance [(0, 9, 12, 13), (0, 9, 15, 15)] 3 := ⟨q_4_52, q_4_53, q_1_0, q_4_54, ⟨by decide +kernel, by decide +kernel⟩, by decide +kernel⟩
theorem k_RL_180 : zKV RL 180 8 yX8_advance M_X8_advance 1 := ⟨q_6_123, q_6_124, q_6_125, q_1_9, q_6_126, ⟨by decide +kernel, by decide +kernel⟩, by decide +kernel⟩
theorem k_RL_181 : zKW RL 181 yL_run M_L_run [(0, 10, 13, 13), (0, 10, 17, 15)] 4 := ⟨q_4_88, q_4_89, q_1_0, q_4_90, ⟨by decide +kernel, by decide +kernel⟩, by decide +kernel⟩
theorem k_RL_184 : zKV RL 184 8 yX8_run M_X8_run 2 := ⟨q_6_163, q_6_164, q_6_165, q_1_9, q_6_166, ⟨by decide +kernel, by decide +kernel⟩, by decide +kernel⟩
theorem k_RL_185 : zKV RL 185 7 yX7_day M_X7_day 0 := ⟨q_2_75, q_2_76, q_2_77, q_1_1, q_2_78, ⟨by decide +kernel, by decide +kernel⟩, by decide +kernel⟩
theorem k_RL_188 : zKV RL 188 8 yX8_day M_X8_day 0 := ⟨q_6_183, q_6_184, q_6_185, q_1_9, q_6_186, ⟨by decide +kernel, by decide +kernel⟩, by decide +kernel⟩
theorem k_RL_189 : zKV RL 189 7 yX7_refusedDemands M_X7_refusedDemands 0 := ⟨q_2_79, q_2_80, q_2_81, q_1_1, q_2_82, ⟨by decide +kernel, by decide +kernel⟩, by decide +kernel⟩
theorem k_RL_192 : zKV RL 192 8 yX8_refusedDemands M_X8_refusedDemands 0 := ⟨q_6_187, q_6_188, q_6_189, q_1_9, q_6_190, ⟨by decide +kernel, by decide +kernel⟩, by decide +kernel⟩
theorem k_RL_193 : zKW RL 193 yL_level M_L_level [(0, 10, 13, 24)] 4 := ⟨q_4_119, q_4_120, q_1_0, q_4_121, ⟨by decide +kernel, by decide +kernel⟩, by decide +kernel⟩
theorem k_RL_195 : zKV RL 195 8 yX8_level M_X8_level 2 := ⟨q_6_191, q_6_192, q_6_193, q_1_9, q_6_194, ⟨by decide +kernel, by decide +kernel⟩, by decide +kernel⟩
theorem k_RL_196 : zKW RL 196 yL_onHand M_L_onHand [(0, 10, 13, 24)] 4 := ⟨q_4_126, q_4_127, q_1_0, q_4_128, ⟨by decide +kernel, by decide +kernel⟩, by decide +kernel⟩
theorem k_RL_198 : zKV RL 198 8 yX8_onHand M_X8_onHand 2 := ⟨q_6_195, q_6_196, q_6_197, q_1_9, q_6_198, ⟨by decide +kernel, by decide +kernel⟩, by decide +kernel⟩
theorem k_RL_199 : zKW RL 199 yL_waiting M_L_waiting [(0, 10, 13, 24)] 4 := ⟨q_4_133, q_4_134, q_1_0, q_4_135, ⟨by decide +kernel, by decide +kernel⟩, by decide +kernel⟩
theorem k_RL_201 : zKV RL 201 8 yX8_waiting M_X8_waiting 2 := ⟨q_6_199, q_6_200, q_6_201, q_1_9, q_6_202, ⟨by decide +kernel, by decide +kernel⟩, by decide +kernel⟩
theorem k_RL_202 : zKW RL 202 yL_topPriority M_L_topPriority [(0, 10, 13, 24)] 4 := ⟨q_4_144, q_4_145, q_1_0, q_4_146, ⟨by decide +kernel, by decide +kernel⟩, by decide +kernel⟩
theorem k_RL_204 : zKV RL 204 8 yX8_topPriority M_X8_topPriority 2 := ⟨q_6_207, q_6_208, q_6_209, q_1_9, q_6_210, ⟨by decide +kernel, by decide +kernel⟩, by decide +kernel⟩
theorem k_RL_205 : zKW RL 205 yL_keptOrders M_L_keptOrders [(0, 9, 12, 24)] 3 := ⟨q_4_152, q_4_153, q_1_0, q_4_154, ⟨by decide +kernel, by decide +kernel⟩, by decide +kernel⟩
theorem k_RL_207 : zKV RL 207 8 yX8_keptOrders M_X8_keptOrders 1 := ⟨q_6_211, q_6_212, q_6_213, q_1_9, q_6_214, ⟨by decide +kernel, by decide +kernel⟩, by decide +kernel⟩
theorem k_RL_208 : zKW RL 208 yL_dueIn M_L_dueIn [(0, 10, 13, 24)] 4 := ⟨q_4_159, q_4_160, q_1_0, q_4_161, ⟨by decide +kernel, by decide +kernel⟩, by decide +kernel⟩
theorem k_RL_210 : zKV RL 210 8 yX8_dueIn M_X8_dueIn 2 := ⟨q_6_215, q_6_216, q_6_217, q_1_9, q_6_218, ⟨by decide +kernel, by decide +kernel⟩, by decide +kernel⟩
theorem k_RL_211 : zKW RL 211 yL_position M_L_position [(0, 10, 13, 24)] 4 := ⟨q_4_175, q_4_176, q_1_0, q_4_177, ⟨by decide +kernel, by decide +kernel⟩, by decide +kernel⟩
theorem k_RL_213 : zKV RL 213 8 yX8_position M_X8_position 2 := ⟨q_6_223, q_6_224, q_6_225, q_1_9, q_6_226, ⟨by decide +kernel, by decide +kernel⟩, by decide +kernel⟩
theorem k_RL_214 : zKW RL 214 yL_underWay M_L_underWay [(0, 10, 13, 24), (0, 10, 17, 13)] 4 := ⟨q_4_182, q_4_183, q_1_0, q_4_184, ⟨by decide +kernel, by decide +kernel⟩, by decide +kernel⟩
theorem k_RL_216 : zKV RL 216 8 yX8_underWay M_X8_underWay 2 := ⟨q_6_227, q_6_228, q_6_229, q_1_9, q_6_230, ⟨by decide +kernel, by decide +kernel⟩, by decide +kernel⟩
theorem k_RL_217 : zKW RL 217 yL_fleet M_L_fleet [(0, 9, 12, 24)] 3 := ⟨q_4_197, q_4_198, q_1_0, q_4_199, ⟨by decide +kernel, by decide +kernel⟩, by decide +kernel⟩
theorem k_RL_219 : zKV RL 219 8 yX8_fleet M_X8_fleet 1 := ⟨q_6_231, q_6_232, q_6_233, q_1_9, q_6_234, ⟨by decide +kernel, by decide +kernel⟩, by decide +kernel⟩
theorem k_RL_220 : zKW RL 220 yL_nextArrival M_L_nextArrival [(0, 10, 13, 24)] 4 := ⟨q_4_204, q_4_205, q_1_0, q_4_206, ⟨by decide +kernel, by decide +kernel⟩, by decide +kernel⟩
theorem k_RL_222 : zKV RL 222 8 yX8_nextArrival M_X8_nextArrival 2 := ⟨q_6_235, q_6_236, q_6_237, q_1_9, q_6_238, ⟨by decide +kernel, by decide +kernel⟩, by decide +kernel⟩
theorem k_RL_223 : zKV RL 223 7 yX7_dueCount M_X7_dueCount 0 := ⟨q_2_83, q_2_84, q_2_85, q_1_1, q_2_86, ⟨by decide +kernel, by decide +kernel⟩, by decide +kernel⟩
theorem k_RL_226 : zKV RL 226 8 yX8_dueCount M_X8_dueCount 0 := ⟨q_6_239, q_7_0, q_7_1, q_1_9, q_7_2, ⟨by decide +kernel, by decide +kernel⟩, by decide +kernel⟩
theorem k_RL_227 : zKW RL 227 yL_dueDay M_L_dueDay [(0, 9, 12, 24)] 3 := ⟨q_4_215, q_4_216, q_1_0, q_4_217, ⟨by decide +kernel, by decide +kernel⟩, by decide +kernel⟩
theorem k_RL_229 : zKV RL 229 8 yX8_dueDay M_X8_dueDay 1 := ⟨q_7_7, q_7_8, q_7_9, q_1_9, q_7_10, ⟨by decide +kernel, by decide +kernel⟩, by decide +kernel⟩
theorem k_RL_230 : zKW RL 230 yL_dueKind M_L_dueKind [(0, 9, 12, 24)] 3 := ⟨q_4_227, q_4_228, q_1_0, q_4_229, ⟨by decide +kernel, by decide +kernel⟩, by decide +kernel⟩
theorem k_RL_232 : zKV RL 232 8 yX8_dueKind M_X8_dueKind 1 := ⟨q_7_27, q_7_28, q_7_29, q_1_9, q_7_30, ⟨by decide +kernel, by decide +kernel⟩, by decide +kernel⟩
theorem k_RL_233 : zKW RL 233 yL_dueItem M_L_dueItem [(0, 9, 12, 24)] 3 := ⟨q_4_234, q_4_235, q_1_0, q_4_236, ⟨by decide +kernel, by decide +kernel⟩, by decide +kernel⟩
theorem k_RL_235 : zKV RL 235 8 yX8_dueItem M_X8_dueItem 1 := ⟨q_7_31, q_7_32, q_7_33, q_1_9, q_7_34, ⟨by decide +kernel, by decide +kernel⟩, by decide +kernel⟩
theorem k_RL_236 : zKW RL 236 yL_dueSite M_L_dueSite [(0, 9, 12, 24)] 3 := ⟨q_5_1, q_5_2, q_1_0, q_5_3, ⟨by decide +kernel, by decide +kernel⟩, by decide +kernel⟩
theorem k_RL_238 : zKV RL 238 8 yX8_dueSite M_X8_dueSite 1 := ⟨q_7_35, q_7_36, q_7_37, q_1_9, q_7_38, ⟨by decide +kernel, by decide +kernel⟩, by decide +kernel⟩
theorem k_RL_239 : zKW RL 239 yL_dueOwner M_L_dueOwner [(0, 9, 12, 24)] 3 := ⟨q_5_8, q_5_9, q_1_0, q_5_10, ⟨by decide +kernel, by decide +kernel⟩, by decide +kernel⟩
theorem k_RL_241 : zKV RL 241 8 yX8_dueOwner M_X8_dueOwner 1 := ⟨q_7_39, q_7_40, q_7_41, q_1_9, q_7_42, ⟨by decide +kernel, by decide +kernel⟩, by decide +kernel⟩
theorem k_RL_242 : zKW RL 242 yL_demands M_L_demands [(0, 10, 13, 24)] 4 := ⟨q_5_15, q_5_16, q_1_0, q_5_17, ⟨by decide +kernel, by decide +kernel⟩, by decide +kernel⟩
theorem k_RL_244 : zKV RL 244 8 yX8_demands M_X8_demands 2 := ⟨q_7_43, q_7_44, q_7_45, q_1_9, q_7_46, ⟨by decide +kernel, by decide +kernel⟩, by decide +kernel⟩
theorem k_RL_245 : zKW RL 245 yL_fillNumerator M_L_fillNumerator [(0, 10, 13, 24)] 4 := ⟨q_5_30, q_5_31, q_1_0, q_5_32, ⟨by decide +kernel, by decide +kernel⟩, by decide +kernel⟩
theorem k_RL_247 : zKV RL 247 8 yX8_fillNumerator M_X8_fillNumerator 2 := ⟨q_7_59, q_7_60, q_7_61, q_1_9, q_7_62, ⟨by decide +kernel, by decide +kernel⟩, by decide +kernel⟩
theorem k_RL_248 : zKW RL 248 yL_fillDenominator M_L_fillDenominator [(0, 10, 13, 24)] 4 := ⟨q_5_40, q_5_41, q_1_0, q_5_42, ⟨by decide +kernel, by decide +kernel⟩, by decide +kernel⟩
theorem k_RL_250 : zKV RL 250 8 yX8_fillDenominator M_X8_fillDenominator 2 := ⟨q_7_70, q_7_71, q_7_72, q_1_9, q_7_73, ⟨by decide +kernel, by decide +kernel⟩, by decide +kernel⟩
theorem k_RL_251 : zKW RL 251 yL_delays M_L_delays [(0, 10, 13, 24)] 4 := ⟨q_5_47, q_5_48, q_1_0, q_5_49, ⟨by decide +kernel, by decide +kernel⟩, by decide +kernel⟩
theorem k_RL_253 : zKV RL 253 8 yX8_delays M_X8_delays 2 := ⟨q_7_74, q_7_75, q_7_76, q_1_9, q_7_77, ⟨by decide +kernel, by decide +kernel⟩, by decide +kernel⟩
theorem k_RL_254 : zKW RL 254 yL_backorderDays M_L_backorderDays [(0, 10, 13, 24)] 4 := ⟨q_5_54, q_5_55, q_1_0, q_5_56, ⟨by decide +kernel, by decide +kernel⟩, by decide +kernel⟩
theorem k_RL_256 : zKV RL 256 8 yX8_backorderDays M_X8_backorderDays 2 := ⟨q_7_78, q_7_79, q_7_80, q_1_9, q_7_81, ⟨by decide +kernel, by decide +kernel⟩, by decide +kernel⟩
theorem k_RL_257 : zKW RL 257 yL_helped M_L_helped [(0, 10, 13, 24)] 4 := ⟨q_5_61, q_5_62, q_1_0, q_5_63, ⟨by decide +kernel, by decide +kernel⟩, by decide +kernel⟩
theorem k_RL_259 : zKV RL 259 8 yX8_helped M_X8_helped 2 := ⟨q_7_82, q_7_83, q_7_84, q_1_9, q_7_85, ⟨by decide +kernel, by decide +kernel⟩, by decide +kernel⟩
theorem k_RL_260 : zKW RL 260 yL_bestSite M_L_bestSite [(0, 12, 15, 24), (0, 12, 19, 13), (0, 12, 23, 15)] 5 := ⟨q_5_68, q_5_69, q_1_0, q_5_70, ⟨by decide +kernel, by decide +kernel⟩, by decide +kernel⟩
theorem k_RL_262 : zKV RL 262 8 yX8_bestSite M_X8_bestSite 3 := ⟨q_7_86, q_7_87, q_7_88, q_1_9, q_7_89, ⟨by decide +kernel, by decide +kernel⟩, by decide +kernel⟩
theorem k_RL_263 : zKW RL 263 yL_appendText M_L_appendText [(0, 9, 12, 15)] 3 := ⟨q_5_105, q_5_106, q_1_0, q_5_107, ⟨by decide +kernel, by decide +kernel⟩, by decide +kernel⟩
theorem k_RL_265 : zKV RL 265 8 yX8_appendText M_X8_appendText 1 := ⟨q_7_93, q_7_94, q_7_95, q_1_9, q_7_96, ⟨by decide +kernel, by decide +kernel⟩, by decide +kernel⟩
theorem k_RL_266 : zKW RL 266 yL_truncateText M_L_truncateText [(0, 9, 12, 13)] 3 := ⟨q_5_122, q_5_123, q_1_0, q_5_124, ⟨by decide +kernel, by decide +kernel⟩, by decide +kernel⟩
theorem k_RL_268 : zKV RL 268 8 yX8_truncateText M_X8_truncateText 1 := ⟨q_7_97, q_7_98, q_7_99, q_1_9, q_7_100, ⟨by decide +kernel, by decide +kernel⟩, by decide +kernel⟩
theorem k_RL_269 : zKV RL 269 7 yX7_load M_X7_load 0 := ⟨q_2_87, q_2_88, q_2_89, q_1_1, q_2_90, ⟨by decide +kernel, by decide +kernel⟩, by decide +kernel⟩
theorem k_RL_272 : zKV RL 272 8 yX8_load M_X8_load 0 := ⟨q_7_101, q_7_102, q_7_103, q_1_9, q_7_104, ⟨by decide +kernel, by decide +kernel⟩, by decide +kernel⟩
theorem k_RL_273 : zKV RL 273 7 yX7_errorCode M_X7_errorCode 0 := ⟨q_3_46, q_3_47, q_3_48, q_1_1, q_3_49, ⟨by decide +kernel, by decide +kernel⟩, by decide +kernel⟩
theorem k_RL_276 : zKV RL 276 8 yX8_errorCode M_X8_errorCode 0 := ⟨q_7_183, q_7_184, q_7_185, q_1_9, q_7_186, ⟨by decide +kernel, by decide +kernel⟩, by decide +kernel⟩
theorem k_RL_277 : zKV RL 277 7 yX7_errorPosition M_X7_errorPosition 0 := ⟨q_3_50, q_3_51, q_3_52, q_1_1, q_3_53, ⟨by decide +kernel, by decide +kernel⟩, by decide +kernel⟩
theorem k_RL_280 : zKV RL 280 8 yX8_errorPosition M_X8_errorPosition 0 := ⟨q_7_187, q_7_188, q_7_189, q_1_9, q_7_190, ⟨by decide +kernel, by decide +kernel⟩, by decide +kernel⟩
theorem k_RL_281 : zKW RL 281 yL_save M_L_save [(0, 5, 8, 13)] 2 := ⟨q_5_129, q_5_130, q_1_0, q_5_131, ⟨by decide +kernel, by decide +kernel⟩, by decide +kernel⟩
theorem k_RL_284 : zKV RL 284 8 yX8_save M_X8_save 1 := ⟨q_7_191, q_7_192, q_7_193, q_1_9, q_7_194, ⟨by decide +kernel, by decide +kernel⟩, by decide +kernel⟩
theorem k_RL_285 : zKW RL 285 yL_restore M_L_restore [(0, 5, 8, 13), (0, 5, 11, 15)] 2 := ⟨q_5_136, q_5_137, q_1_0, q_5_138, ⟨by decide +kernel, by decide +kernel⟩, by decide +kernel⟩
theorem k_RL_287 : zKV RL 287 8 yX8_restore M_X8_restore 1 := ⟨q_7_195, q_7_196, q_7_197, q_1_9, q_7_198, ⟨by decide +kernel, by decide +kernel⟩, by decide +kernel⟩
